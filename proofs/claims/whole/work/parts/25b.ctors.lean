set_option maxRecDepth 4000 in
theorem ci_DG_init_36 : ConI ⟨"TurnedRivers$Digging", "<init>", "()V"⟩ prog_3_method_1_code 1 1 2 512 36 [(4, 8, 7, 0), (1, 400, 1, 0), (0, 4, 0, 0), (0, 6, 0, 0), (1, 401, 0, 0), (1, 401, 0, 0), (1, 401, 0, 0), (0, 3, 0, 0), (1, 8, 0, 0), (1, 96, 0, 0), (1, 20, 0, 0), (1, 48, 0, 0), (1, 9, 0, 0), (0, 3, 0, 0), (1, 8, 0, 0), (1, 96, 0, 0), (1, 20, 0, 0), (1, 48, 0, 0), (1, 9, 0, 0), (0, 2, 0, 0), (1, 8, 0, 0), (1, 8, 0, 0), (1, 8, 0, 0), (1, 8, 0, 0), (1, 8, 0, 0), (1, 8, 0, 0), (1, 8, 0, 0), (1, 4, 0, 0), (1, 8, 0, 0), (1, 8, 0, 0), (1, 8, 0, 0), (1, 8, 0, 0), (0, 7, 0, 0), (1, 768, 0, 0), (2, 3, 0, 0), (2, 3, 0, 0), (4, 1, 0, 0)] (fgS (sR (emS (sR (emS Z0 7) 0 3 7) 13) 0 4 13) 32) [(4, 8, 7, 0), (1, 400, 1, 0), (0, 4, 0, 0), (0, 6, 0, 0), (1, 401, 0, 0), (1, 401, 0, 0), (1, 401, 0, 0), (0, 3, 0, 0), (1, 8, 0, 0), (1, 96, 0, 0), (1, 20, 0, 0), (1, 48, 0, 0), (1, 9, 0, 0), (0, 3, 0, 0), (1, 8, 0, 0), (1, 96, 0, 0), (1, 20, 0, 0), (1, 48, 0, 0), (1, 9, 0, 0), (0, 2, 0, 0), (1, 8, 0, 0), (1, 8, 0, 0), (1, 8, 0, 0), (1, 8, 0, 0), (1, 8, 0, 0), (1, 8, 0, 0), (1, 8, 0, 0), (1, 4, 0, 0), (1, 8, 0, 0), (1, 8, 0, 0), (1, 8, 0, 0), (1, 8, 0, 0), (0, 7, 0, 0), (1, 768, 0, 0), (2, 3, 0, 0), (2, 3, 0, 0), (0, 1, 0, 0), (1, 256, 0, 0), (1, 256, 0, 0)] (fgS (sR (emS (sR (emS Z0 7) 0 3 7) 13) 0 4 13) 32) := by
  intro l D cA ad base had
  refine Met.ofW (cc := prog_3_method_1_code) (maxL := 1) (ret := none) (by decide) rfl ?_
  intro p e s m args below meth c s₁ B hml hv
  obtain ⟨rfl, hz0, hP, hK, hXS, hAO, hNL⟩ := hv
  have hx := B.exec
  have hb := B.bytes
  have hr := B.returns
  have hts0 := atoms_spec (ws := wsM ⟨"TurnedRivers$Digging", "<init>", "()V"⟩ prog_3_method_1_code 1 none) B.pre
  have hts : ∀ w ∈ gw, w.before _ s = true := fun w hw => hts0 w (List.mem_cons_of_mem _ hw)
  have hown : s.vm.findClass "TurnedRivers$Digging" = some m.cls := findClass_of_methodNamed B.named
  have hlocks := B.notSynchronized
  have hin : meth.name = "<init>" := (name_of_methodNamed B.named B.method).1
  have hS : va_S (fun q => base ≤ q) s.heap s.heap [] := va_S.rf
  have hl := lv_entry ([.ref (ad 36)]) (n := 1) (Nat.le_of_ble_eq_true rfl)
  rw [lg_entry_eq]
  generalize (lg_sl ([.ref (ad 36)]) ++ List.replicate (1 - (lg_sl ([.ref (ad 36)])).length) Slot.unset).toArray = ls at hl ⊢
  have hl : lv_has ls 1 [(0, .ref (ad 36))] := hl
  have hz00 : s.heap.size = base + 37 := hz0
  have hz := hz00
  refine lv_aload_n hx hb (by decide +kernel : decode prog_3_method_1_code 0 = .ok (.aload_n 0, 1)) rfl (lv_at hl 0 rfl) ?_
  refine W.objInit hx hb hown (hts _ wd_288) (hts _ wd_103) (hts _ wd_104) rfl (by rw [hml]; exact hl.1) rfl (by decide +kernel : decode prog_3_method_1_code 1 = .ok (.invokespecial 3, 3)) (Nat.le_of_ble_eq_true rfl) (Nat.le_of_ble_eq_true rfl) ?_
  refine W.eq (g2 := F0 m 4 ls []) rfl ?_
  refine lv_aload_n hx hb (by decide +kernel : decode prog_3_method_1_code 4 = .ok (.aload_n 0, 1)) rfl (lv_at hl 0 rfl) ?_
  refine lv_sipush (n := 256) (v := 256) hx hb (by decide +kernel) (by decide) ?_
  refine dn_arr (atype := .int) (ty := .int) (t := 0) (N := 256) (a0 := (256, .inl (fun _ => 0))) (en := (1, 256, 0, 0)) hx hb hts hK had rfl wd_134 rfl (fun _ h => h) (fun _ => rfl) rfl hP hz hS (by decide) (by decide) (by decide) (by decide) (Nat.le_of_ble_eq_true rfl) (Nat.le_of_ble_eq_true rfl) (by decide +kernel) (fun H hP hz hS => ?_)
  have hP : va_P D cls (wsD [(4, 8, 7, 0), (1, 400, 1, 0), (0, 4, 0, 0), (0, 6, 0, 0), (1, 401, 0, 0), (1, 401, 0, 0), (1, 401, 0, 0), (0, 3, 0, 0), (1, 8, 0, 0), (1, 96, 0, 0), (1, 20, 0, 0), (1, 48, 0, 0), (1, 9, 0, 0), (0, 3, 0, 0), (1, 8, 0, 0), (1, 96, 0, 0), (1, 20, 0, 0), (1, 48, 0, 0), (1, 9, 0, 0), (0, 2, 0, 0), (1, 8, 0, 0), (1, 8, 0, 0), (1, 8, 0, 0), (1, 8, 0, 0), (1, 8, 0, 0), (1, 8, 0, 0), (1, 8, 0, 0), (1, 4, 0, 0), (1, 8, 0, 0), (1, 8, 0, 0), (1, 8, 0, 0), (1, 8, 0, 0), (0, 7, 0, 0), (1, 768, 0, 0), (2, 3, 0, 0), (2, 3, 0, 0), (4, 1, 0, 0), (1, 256, 0, 0)] cA ad (fgS (sR (emS (sR (emS Z0 7) 0 3 7) 13) 0 4 13) 32)) H := hP
  have hz : H.size = base + 38 := hz
  refine W.eq (g2 := F0 m 10 ls [.ref (ad 37), .ref (ad 36)]) rfl ?_
  refine dn_putF (a := 36) (j := 0) (j0 := 0) (z := 1) hx hb hts hown hin hK had tco_1 rfl (by decide) (by
      have h9 : ∀ i, i < 0 → 0 ≤ i → (((fks 1)[i]?.map (fun k => decide (k.1 < 2))).getD true) = true := by decide
      intro i kd h1 h2 h3
      have h8 := h9 i h2 h1
      rw [h3] at h8
      simpa using h8) wd_289 rfl rfl (fun _ => rfl) (fun _ => rfl) rfl hP hz hS (by decide) (by decide +kernel) (fun H locs hP hz hS => ?_)
  have hP : va_P D cls (wsD [(4, 8, 7, 0), (1, 400, 1, 0), (0, 4, 0, 0), (0, 6, 0, 0), (1, 401, 0, 0), (1, 401, 0, 0), (1, 401, 0, 0), (0, 3, 0, 0), (1, 8, 0, 0), (1, 96, 0, 0), (1, 20, 0, 0), (1, 48, 0, 0), (1, 9, 0, 0), (0, 3, 0, 0), (1, 8, 0, 0), (1, 96, 0, 0), (1, 20, 0, 0), (1, 48, 0, 0), (1, 9, 0, 0), (0, 2, 0, 0), (1, 8, 0, 0), (1, 8, 0, 0), (1, 8, 0, 0), (1, 8, 0, 0), (1, 8, 0, 0), (1, 8, 0, 0), (1, 8, 0, 0), (1, 4, 0, 0), (1, 8, 0, 0), (1, 8, 0, 0), (1, 8, 0, 0), (1, 8, 0, 0), (0, 7, 0, 0), (1, 768, 0, 0), (2, 3, 0, 0), (2, 3, 0, 0), (4, 1, 1, 0), (1, 256, 0, 0)] cA ad (fgS (sR (emS (sR (emS Z0 7) 0 3 7) 13) 0 4 13) 32)) H := hP
  have hz : H.size = base + 38 := hz
  refine lv_aload_n hx hb (by decide +kernel : decode prog_3_method_1_code 13 = .ok (.aload_n 0, 1)) rfl (lv_at hl 0 rfl) ?_
  refine lv_sipush (n := 256) (v := 256) hx hb (by decide +kernel) (by decide) ?_
  refine dn_arr (atype := .int) (ty := .int) (t := 0) (N := 256) (a0 := (256, .inl (fun _ => 0))) (en := (1, 256, 0, 0)) hx hb hts hK had rfl wd_134 rfl (fun _ h => h) (fun _ => rfl) rfl hP hz hS (by decide) (by decide) (by decide) (by decide) (Nat.le_of_ble_eq_true rfl) (Nat.le_of_ble_eq_true rfl) (by decide +kernel) (fun H hP hz hS => ?_)
  have hP : va_P D cls (wsD [(4, 8, 7, 0), (1, 400, 1, 0), (0, 4, 0, 0), (0, 6, 0, 0), (1, 401, 0, 0), (1, 401, 0, 0), (1, 401, 0, 0), (0, 3, 0, 0), (1, 8, 0, 0), (1, 96, 0, 0), (1, 20, 0, 0), (1, 48, 0, 0), (1, 9, 0, 0), (0, 3, 0, 0), (1, 8, 0, 0), (1, 96, 0, 0), (1, 20, 0, 0), (1, 48, 0, 0), (1, 9, 0, 0), (0, 2, 0, 0), (1, 8, 0, 0), (1, 8, 0, 0), (1, 8, 0, 0), (1, 8, 0, 0), (1, 8, 0, 0), (1, 8, 0, 0), (1, 8, 0, 0), (1, 4, 0, 0), (1, 8, 0, 0), (1, 8, 0, 0), (1, 8, 0, 0), (1, 8, 0, 0), (0, 7, 0, 0), (1, 768, 0, 0), (2, 3, 0, 0), (2, 3, 0, 0), (4, 1, 1, 0), (1, 256, 0, 0), (1, 256, 0, 0)] cA ad (fgS (sR (emS (sR (emS Z0 7) 0 3 7) 13) 0 4 13) 32)) H := hP
  have hz : H.size = base + 39 := hz
  refine W.eq (g2 := F0 m 19 ls [.ref (ad 38), .ref (ad 36)]) rfl ?_
  refine dn_putF (a := 36) (j := 1) (j0 := 1) (z := 2) hx hb hts hown hin hK had tco_1 rfl (by decide) (by
      have h9 : ∀ i, i < 1 → 1 ≤ i → (((fks 1)[i]?.map (fun k => decide (k.1 < 2))).getD true) = true := by decide
      intro i kd h1 h2 h3
      have h8 := h9 i h2 h1
      rw [h3] at h8
      simpa using h8) wd_291 rfl rfl (fun _ => rfl) (fun _ => rfl) rfl hP hz hS (by decide) (by decide +kernel) (fun H locs hP hz hS => ?_)
  have hP : va_P D cls (wsD [(4, 8, 7, 0), (1, 400, 1, 0), (0, 4, 0, 0), (0, 6, 0, 0), (1, 401, 0, 0), (1, 401, 0, 0), (1, 401, 0, 0), (0, 3, 0, 0), (1, 8, 0, 0), (1, 96, 0, 0), (1, 20, 0, 0), (1, 48, 0, 0), (1, 9, 0, 0), (0, 3, 0, 0), (1, 8, 0, 0), (1, 96, 0, 0), (1, 20, 0, 0), (1, 48, 0, 0), (1, 9, 0, 0), (0, 2, 0, 0), (1, 8, 0, 0), (1, 8, 0, 0), (1, 8, 0, 0), (1, 8, 0, 0), (1, 8, 0, 0), (1, 8, 0, 0), (1, 8, 0, 0), (1, 4, 0, 0), (1, 8, 0, 0), (1, 8, 0, 0), (1, 8, 0, 0), (1, 8, 0, 0), (0, 7, 0, 0), (1, 768, 0, 0), (2, 3, 0, 0), (2, 3, 0, 0), (4, 1, 2, 0), (1, 256, 0, 0), (1, 256, 0, 0)] cA ad (fgS (sR (emS (sR (emS Z0 7) 0 3 7) 13) 0 4 13) 32)) H := hP
  have hz : H.size = base + 39 := hz
  have hP := dn_done hP (a := 36) (ci := 1) (j := 2) rfl (by
      have h9 : ∀ i, i < 2 → 2 ≤ i → (((fks 1)[i]?.map (fun k => decide (k.1 < 2))).getD true) = true := by decide
      intro i kd h1 h3
      have h8 := h9 i (List.getElem?_eq_some_iff.mp h3).1 h1
      rw [h3] at h8
      simpa using h8)
  have hP : va_P D cls (wsD [(4, 8, 7, 0), (1, 400, 1, 0), (0, 4, 0, 0), (0, 6, 0, 0), (1, 401, 0, 0), (1, 401, 0, 0), (1, 401, 0, 0), (0, 3, 0, 0), (1, 8, 0, 0), (1, 96, 0, 0), (1, 20, 0, 0), (1, 48, 0, 0), (1, 9, 0, 0), (0, 3, 0, 0), (1, 8, 0, 0), (1, 96, 0, 0), (1, 20, 0, 0), (1, 48, 0, 0), (1, 9, 0, 0), (0, 2, 0, 0), (1, 8, 0, 0), (1, 8, 0, 0), (1, 8, 0, 0), (1, 8, 0, 0), (1, 8, 0, 0), (1, 8, 0, 0), (1, 8, 0, 0), (1, 4, 0, 0), (1, 8, 0, 0), (1, 8, 0, 0), (1, 8, 0, 0), (1, 8, 0, 0), (0, 7, 0, 0), (1, 768, 0, 0), (2, 3, 0, 0), (2, 3, 0, 0), (0, 1, 0, 0), (1, 256, 0, 0), (1, 256, 0, 0)] cA ad (fgS (sR (emS (sR (emS Z0 7) 0 3 7) 13) 0 4 13) 32)) H := hP
  have hz : H.size = base + 39 := hz
  exact W.vret hx hb hr (fun t ht hW => ⟨⟨(), rfl, trivial, by rw [ht]; exact hz, by rw [ht]; exact hP, va_K.moved hW.alike hK, hXS.next ht hW hS, va_AO.moved hW.alike hAO, hNL.warm hW⟩, hS.F ht⟩) hS.2.2 (by decide +kernel) hlocks
set_option maxRecDepth 4000 in
theorem ci_DP_init_39 : ConI ⟨"TurnedRivers$DamPlan", "<init>", "()V"⟩ prog_2_method_1_code 1 1 3 500 39 [(4, 8, 8, 0), (1, 400, 1, 0), (0, 4, 0, 0), (0, 6, 0, 0), (1, 401, 0, 0), (1, 401, 0, 0), (1, 401, 0, 0), (0, 3, 0, 0), (1, 8, 0, 0), (1, 96, 0, 0), (1, 20, 0, 0), (1, 48, 0, 0), (1, 9, 0, 0), (0, 3, 0, 0), (1, 8, 0, 0), (1, 96, 0, 0), (1, 20, 0, 0), (1, 48, 0, 0), (1, 9, 0, 0), (0, 2, 0, 0), (1, 8, 0, 0), (1, 8, 0, 0), (1, 8, 0, 0), (1, 8, 0, 0), (1, 8, 0, 0), (1, 8, 0, 0), (1, 8, 0, 0), (1, 4, 0, 0), (1, 8, 0, 0), (1, 8, 0, 0), (1, 8, 0, 0), (1, 8, 0, 0), (0, 7, 0, 0), (1, 768, 0, 0), (2, 3, 0, 0), (2, 3, 0, 0), (0, 1, 0, 0), (1, 256, 0, 0), (1, 256, 0, 0), (4, 0, 0, 0)] (fgS (sR (emS (sR (emS Z0 7) 0 3 7) 13) 0 4 13) 32) [(4, 8, 8, 0), (1, 400, 1, 0), (0, 4, 0, 0), (0, 6, 0, 0), (1, 401, 0, 0), (1, 401, 0, 0), (1, 401, 0, 0), (0, 3, 0, 0), (1, 8, 0, 0), (1, 96, 0, 0), (1, 20, 0, 0), (1, 48, 0, 0), (1, 9, 0, 0), (0, 3, 0, 0), (1, 8, 0, 0), (1, 96, 0, 0), (1, 20, 0, 0), (1, 48, 0, 0), (1, 9, 0, 0), (0, 2, 0, 0), (1, 8, 0, 0), (1, 8, 0, 0), (1, 8, 0, 0), (1, 8, 0, 0), (1, 8, 0, 0), (1, 8, 0, 0), (1, 8, 0, 0), (1, 4, 0, 0), (1, 8, 0, 0), (1, 8, 0, 0), (1, 8, 0, 0), (1, 8, 0, 0), (0, 7, 0, 0), (1, 768, 0, 0), (2, 3, 0, 0), (2, 3, 0, 0), (0, 1, 0, 0), (1, 256, 0, 0), (1, 256, 0, 0), (0, 0, 0, 0), (1, 480, 0, 0), (1, 10, 0, 0), (1, 10, 0, 0)] (fgS (sR (emS (sR (emS Z0 7) 0 3 7) 13) 0 4 13) 32) := by
  intro l D cA ad base had
  refine Met.ofW (cc := prog_2_method_1_code) (maxL := 1) (ret := none) (by decide) rfl ?_
  intro p e s m args below meth c s₁ B hml hv
  obtain ⟨rfl, hz0, hP, hK, hXS, hAO, hNL⟩ := hv
  have hx := B.exec
  have hb := B.bytes
  have hr := B.returns
  have hts0 := atoms_spec (ws := wsM ⟨"TurnedRivers$DamPlan", "<init>", "()V"⟩ prog_2_method_1_code 1 none) B.pre
  have hts : ∀ w ∈ gw, w.before _ s = true := fun w hw => hts0 w (List.mem_cons_of_mem _ hw)
  have hown : s.vm.findClass "TurnedRivers$DamPlan" = some m.cls := findClass_of_methodNamed B.named
  have hlocks := B.notSynchronized
  have hin : meth.name = "<init>" := (name_of_methodNamed B.named B.method).1
  have hS : va_S (fun q => base ≤ q) s.heap s.heap [] := va_S.rf
  have hl := lv_entry ([.ref (ad 39)]) (n := 1) (Nat.le_of_ble_eq_true rfl)
  rw [lg_entry_eq]
  generalize (lg_sl ([.ref (ad 39)]) ++ List.replicate (1 - (lg_sl ([.ref (ad 39)])).length) Slot.unset).toArray = ls at hl ⊢
  have hl : lv_has ls 1 [(0, .ref (ad 39))] := hl
  have hz00 : s.heap.size = base + 40 := hz0
  have hz := hz00
  refine lv_aload_n hx hb (by decide +kernel : decode prog_2_method_1_code 0 = .ok (.aload_n 0, 1)) rfl (lv_at hl 0 rfl) ?_
  refine W.objInit hx hb hown (hts _ wd_302) (hts _ wd_103) (hts _ wd_104) rfl (by rw [hml]; exact hl.1) rfl (by decide +kernel : decode prog_2_method_1_code 1 = .ok (.invokespecial 3, 3)) (Nat.le_of_ble_eq_true rfl) (Nat.le_of_ble_eq_true rfl) ?_
  refine W.eq (g2 := F0 m 4 ls []) rfl ?_
  refine lv_aload_n hx hb (by decide +kernel : decode prog_2_method_1_code 4 = .ok (.aload_n 0, 1)) rfl (lv_at hl 0 rfl) ?_
  refine lv_sipush (n := 480) (v := 480) hx hb (by decide +kernel) (by decide) ?_
  refine dn_arr (atype := .int) (ty := .int) (t := 0) (N := 480) (a0 := (480, .inl (fun _ => 0))) (en := (1, 480, 0, 0)) hx hb hts hK had rfl wd_134 rfl (fun _ h => h) (fun _ => rfl) rfl hP hz hS (by decide) (by decide) (by decide) (by decide) (Nat.le_of_ble_eq_true rfl) (Nat.le_of_ble_eq_true rfl) (by decide +kernel) (fun H hP hz hS => ?_)
  have hP : va_P D cls (wsD [(4, 8, 8, 0), (1, 400, 1, 0), (0, 4, 0, 0), (0, 6, 0, 0), (1, 401, 0, 0), (1, 401, 0, 0), (1, 401, 0, 0), (0, 3, 0, 0), (1, 8, 0, 0), (1, 96, 0, 0), (1, 20, 0, 0), (1, 48, 0, 0), (1, 9, 0, 0), (0, 3, 0, 0), (1, 8, 0, 0), (1, 96, 0, 0), (1, 20, 0, 0), (1, 48, 0, 0), (1, 9, 0, 0), (0, 2, 0, 0), (1, 8, 0, 0), (1, 8, 0, 0), (1, 8, 0, 0), (1, 8, 0, 0), (1, 8, 0, 0), (1, 8, 0, 0), (1, 8, 0, 0), (1, 4, 0, 0), (1, 8, 0, 0), (1, 8, 0, 0), (1, 8, 0, 0), (1, 8, 0, 0), (0, 7, 0, 0), (1, 768, 0, 0), (2, 3, 0, 0), (2, 3, 0, 0), (0, 1, 0, 0), (1, 256, 0, 0), (1, 256, 0, 0), (4, 0, 0, 0), (1, 480, 0, 0)] cA ad (fgS (sR (emS (sR (emS Z0 7) 0 3 7) 13) 0 4 13) 32)) H := hP
  have hz : H.size = base + 41 := hz
  refine W.eq (g2 := F0 m 10 ls [.ref (ad 40), .ref (ad 39)]) rfl ?_
  refine dn_putF (a := 39) (j := 1) (j0 := 0) (z := 1) hx hb hts hown hin hK had tco_0 rfl (by decide) (by
      have h9 : ∀ i, i < 1 → 0 ≤ i → (((fks 0)[i]?.map (fun k => decide (k.1 < 2))).getD true) = true := by decide
      intro i kd h1 h2 h3
      have h8 := h9 i h2 h1
      rw [h3] at h8
      simpa using h8) wd_305 rfl rfl (fun _ => rfl) (fun _ => rfl) rfl hP hz hS (by decide) (by decide +kernel) (fun H locs hP hz hS => ?_)
  have hP : va_P D cls (wsD [(4, 8, 8, 0), (1, 400, 1, 0), (0, 4, 0, 0), (0, 6, 0, 0), (1, 401, 0, 0), (1, 401, 0, 0), (1, 401, 0, 0), (0, 3, 0, 0), (1, 8, 0, 0), (1, 96, 0, 0), (1, 20, 0, 0), (1, 48, 0, 0), (1, 9, 0, 0), (0, 3, 0, 0), (1, 8, 0, 0), (1, 96, 0, 0), (1, 20, 0, 0), (1, 48, 0, 0), (1, 9, 0, 0), (0, 2, 0, 0), (1, 8, 0, 0), (1, 8, 0, 0), (1, 8, 0, 0), (1, 8, 0, 0), (1, 8, 0, 0), (1, 8, 0, 0), (1, 8, 0, 0), (1, 4, 0, 0), (1, 8, 0, 0), (1, 8, 0, 0), (1, 8, 0, 0), (1, 8, 0, 0), (0, 7, 0, 0), (1, 768, 0, 0), (2, 3, 0, 0), (2, 3, 0, 0), (0, 1, 0, 0), (1, 256, 0, 0), (1, 256, 0, 0), (4, 0, 2, 0), (1, 480, 0, 0)] cA ad (fgS (sR (emS (sR (emS Z0 7) 0 3 7) 13) 0 4 13) 32)) H := hP
  have hz : H.size = base + 41 := hz
  refine lv_aload_n hx hb (by decide +kernel : decode prog_2_method_1_code 13 = .ok (.aload_n 0, 1)) rfl (lv_at hl 0 rfl) ?_
  refine lv_bipush (n := 10) (v := 10) hx hb (by decide +kernel) (by decide) ?_
  refine dn_arr (atype := .int) (ty := .int) (t := 0) (N := 10) (a0 := (10, .inl (fun _ => 0))) (en := (1, 10, 0, 0)) hx hb hts hK had rfl wd_134 rfl (fun _ h => h) (fun _ => rfl) rfl hP hz hS (by decide) (by decide) (by decide) (by decide) (Nat.le_of_ble_eq_true rfl) (Nat.le_of_ble_eq_true rfl) (by decide +kernel) (fun H hP hz hS => ?_)
  have hP : va_P D cls (wsD [(4, 8, 8, 0), (1, 400, 1, 0), (0, 4, 0, 0), (0, 6, 0, 0), (1, 401, 0, 0), (1, 401, 0, 0), (1, 401, 0, 0), (0, 3, 0, 0), (1, 8, 0, 0), (1, 96, 0, 0), (1, 20, 0, 0), (1, 48, 0, 0), (1, 9, 0, 0), (0, 3, 0, 0), (1, 8, 0, 0), (1, 96, 0, 0), (1, 20, 0, 0), (1, 48, 0, 0), (1, 9, 0, 0), (0, 2, 0, 0), (1, 8, 0, 0), (1, 8, 0, 0), (1, 8, 0, 0), (1, 8, 0, 0), (1, 8, 0, 0), (1, 8, 0, 0), (1, 8, 0, 0), (1, 4, 0, 0), (1, 8, 0, 0), (1, 8, 0, 0), (1, 8, 0, 0), (1, 8, 0, 0), (0, 7, 0, 0), (1, 768, 0, 0), (2, 3, 0, 0), (2, 3, 0, 0), (0, 1, 0, 0), (1, 256, 0, 0), (1, 256, 0, 0), (4, 0, 2, 0), (1, 480, 0, 0), (1, 10, 0, 0)] cA ad (fgS (sR (emS (sR (emS Z0 7) 0 3 7) 13) 0 4 13) 32)) H := hP
  have hz : H.size = base + 42 := hz
  refine W.eq (g2 := F0 m 18 ls [.ref (ad 41), .ref (ad 39)]) rfl ?_
  refine dn_putF (a := 39) (j := 2) (j0 := 2) (z := 2) hx hb hts hown hin hK had tco_0 rfl (by decide) (by
      have h9 : ∀ i, i < 2 → 2 ≤ i → (((fks 0)[i]?.map (fun k => decide (k.1 < 2))).getD true) = true := by decide
      intro i kd h1 h2 h3
      have h8 := h9 i h2 h1
      rw [h3] at h8
      simpa using h8) wd_306 rfl rfl (fun _ => rfl) (fun _ => rfl) rfl hP hz hS (by decide) (by decide +kernel) (fun H locs hP hz hS => ?_)
  have hP : va_P D cls (wsD [(4, 8, 8, 0), (1, 400, 1, 0), (0, 4, 0, 0), (0, 6, 0, 0), (1, 401, 0, 0), (1, 401, 0, 0), (1, 401, 0, 0), (0, 3, 0, 0), (1, 8, 0, 0), (1, 96, 0, 0), (1, 20, 0, 0), (1, 48, 0, 0), (1, 9, 0, 0), (0, 3, 0, 0), (1, 8, 0, 0), (1, 96, 0, 0), (1, 20, 0, 0), (1, 48, 0, 0), (1, 9, 0, 0), (0, 2, 0, 0), (1, 8, 0, 0), (1, 8, 0, 0), (1, 8, 0, 0), (1, 8, 0, 0), (1, 8, 0, 0), (1, 8, 0, 0), (1, 8, 0, 0), (1, 4, 0, 0), (1, 8, 0, 0), (1, 8, 0, 0), (1, 8, 0, 0), (1, 8, 0, 0), (0, 7, 0, 0), (1, 768, 0, 0), (2, 3, 0, 0), (2, 3, 0, 0), (0, 1, 0, 0), (1, 256, 0, 0), (1, 256, 0, 0), (4, 0, 3, 0), (1, 480, 0, 0), (1, 10, 0, 0)] cA ad (fgS (sR (emS (sR (emS Z0 7) 0 3 7) 13) 0 4 13) 32)) H := hP
  have hz : H.size = base + 42 := hz
  refine lv_aload_n hx hb (by decide +kernel : decode prog_2_method_1_code 21 = .ok (.aload_n 0, 1)) rfl (lv_at hl 0 rfl) ?_
  refine lv_bipush (n := 10) (v := 10) hx hb (by decide +kernel) (by decide) ?_
  refine dn_arr (atype := .int) (ty := .int) (t := 0) (N := 10) (a0 := (10, .inl (fun _ => 0))) (en := (1, 10, 0, 0)) hx hb hts hK had rfl wd_134 rfl (fun _ h => h) (fun _ => rfl) rfl hP hz hS (by decide) (by decide) (by decide) (by decide) (Nat.le_of_ble_eq_true rfl) (Nat.le_of_ble_eq_true rfl) (by decide +kernel) (fun H hP hz hS => ?_)
  have hP : va_P D cls (wsD [(4, 8, 8, 0), (1, 400, 1, 0), (0, 4, 0, 0), (0, 6, 0, 0), (1, 401, 0, 0), (1, 401, 0, 0), (1, 401, 0, 0), (0, 3, 0, 0), (1, 8, 0, 0), (1, 96, 0, 0), (1, 20, 0, 0), (1, 48, 0, 0), (1, 9, 0, 0), (0, 3, 0, 0), (1, 8, 0, 0), (1, 96, 0, 0), (1, 20, 0, 0), (1, 48, 0, 0), (1, 9, 0, 0), (0, 2, 0, 0), (1, 8, 0, 0), (1, 8, 0, 0), (1, 8, 0, 0), (1, 8, 0, 0), (1, 8, 0, 0), (1, 8, 0, 0), (1, 8, 0, 0), (1, 4, 0, 0), (1, 8, 0, 0), (1, 8, 0, 0), (1, 8, 0, 0), (1, 8, 0, 0), (0, 7, 0, 0), (1, 768, 0, 0), (2, 3, 0, 0), (2, 3, 0, 0), (0, 1, 0, 0), (1, 256, 0, 0), (1, 256, 0, 0), (4, 0, 3, 0), (1, 480, 0, 0), (1, 10, 0, 0), (1, 10, 0, 0)] cA ad (fgS (sR (emS (sR (emS Z0 7) 0 3 7) 13) 0 4 13) 32)) H := hP
  have hz : H.size = base + 43 := hz
  refine W.eq (g2 := F0 m 26 ls [.ref (ad 42), .ref (ad 39)]) rfl ?_
  refine dn_putF (a := 39) (j := 3) (j0 := 3) (z := 3) hx hb hts hown hin hK had tco_0 rfl (by decide) (by
      have h9 : ∀ i, i < 3 → 3 ≤ i → (((fks 0)[i]?.map (fun k => decide (k.1 < 2))).getD true) = true := by decide
      intro i kd h1 h2 h3
      have h8 := h9 i h2 h1
      rw [h3] at h8
      simpa using h8) wd_307 rfl rfl (fun _ => rfl) (fun _ => rfl) rfl hP hz hS (by decide) (by decide +kernel) (fun H locs hP hz hS => ?_)
  have hP : va_P D cls (wsD [(4, 8, 8, 0), (1, 400, 1, 0), (0, 4, 0, 0), (0, 6, 0, 0), (1, 401, 0, 0), (1, 401, 0, 0), (1, 401, 0, 0), (0, 3, 0, 0), (1, 8, 0, 0), (1, 96, 0, 0), (1, 20, 0, 0), (1, 48, 0, 0), (1, 9, 0, 0), (0, 3, 0, 0), (1, 8, 0, 0), (1, 96, 0, 0), (1, 20, 0, 0), (1, 48, 0, 0), (1, 9, 0, 0), (0, 2, 0, 0), (1, 8, 0, 0), (1, 8, 0, 0), (1, 8, 0, 0), (1, 8, 0, 0), (1, 8, 0, 0), (1, 8, 0, 0), (1, 8, 0, 0), (1, 4, 0, 0), (1, 8, 0, 0), (1, 8, 0, 0), (1, 8, 0, 0), (1, 8, 0, 0), (0, 7, 0, 0), (1, 768, 0, 0), (2, 3, 0, 0), (2, 3, 0, 0), (0, 1, 0, 0), (1, 256, 0, 0), (1, 256, 0, 0), (4, 0, 4, 0), (1, 480, 0, 0), (1, 10, 0, 0), (1, 10, 0, 0)] cA ad (fgS (sR (emS (sR (emS Z0 7) 0 3 7) 13) 0 4 13) 32)) H := hP
  have hz : H.size = base + 43 := hz
  have hP := dn_done hP (a := 39) (ci := 0) (j := 4) rfl (by
      have h9 : ∀ i, i < 4 → 4 ≤ i → (((fks 0)[i]?.map (fun k => decide (k.1 < 2))).getD true) = true := by decide
      intro i kd h1 h3
      have h8 := h9 i (List.getElem?_eq_some_iff.mp h3).1 h1
      rw [h3] at h8
      simpa using h8)
  have hP : va_P D cls (wsD [(4, 8, 8, 0), (1, 400, 1, 0), (0, 4, 0, 0), (0, 6, 0, 0), (1, 401, 0, 0), (1, 401, 0, 0), (1, 401, 0, 0), (0, 3, 0, 0), (1, 8, 0, 0), (1, 96, 0, 0), (1, 20, 0, 0), (1, 48, 0, 0), (1, 9, 0, 0), (0, 3, 0, 0), (1, 8, 0, 0), (1, 96, 0, 0), (1, 20, 0, 0), (1, 48, 0, 0), (1, 9, 0, 0), (0, 2, 0, 0), (1, 8, 0, 0), (1, 8, 0, 0), (1, 8, 0, 0), (1, 8, 0, 0), (1, 8, 0, 0), (1, 8, 0, 0), (1, 8, 0, 0), (1, 4, 0, 0), (1, 8, 0, 0), (1, 8, 0, 0), (1, 8, 0, 0), (1, 8, 0, 0), (0, 7, 0, 0), (1, 768, 0, 0), (2, 3, 0, 0), (2, 3, 0, 0), (0, 1, 0, 0), (1, 256, 0, 0), (1, 256, 0, 0), (0, 0, 0, 0), (1, 480, 0, 0), (1, 10, 0, 0), (1, 10, 0, 0)] cA ad (fgS (sR (emS (sR (emS Z0 7) 0 3 7) 13) 0 4 13) 32)) H := hP
  have hz : H.size = base + 43 := hz
  exact W.vret hx hb hr (fun t ht hW => ⟨⟨(), rfl, trivial, by rw [ht]; exact hz, by rw [ht]; exact hP, va_K.moved hW.alike hK, hXS.next ht hW hS, va_AO.moved hW.alike hAO, hNL.warm hW⟩, hS.F ht⟩) hS.2.2 (by decide +kernel) hlocks
set_option maxRecDepth 4000 in
theorem ci_SD_init_43 : ConI ⟨"TurnedRivers$Standing", "<init>", "()V"⟩ prog_7_method_1_code 1 1 3 15 43 [(4, 8, 9, 0), (1, 400, 1, 0), (0, 4, 0, 0), (0, 6, 0, 0), (1, 401, 0, 0), (1, 401, 0, 0), (1, 401, 0, 0), (0, 3, 0, 0), (1, 8, 0, 0), (1, 96, 0, 0), (1, 20, 0, 0), (1, 48, 0, 0), (1, 9, 0, 0), (0, 3, 0, 0), (1, 8, 0, 0), (1, 96, 0, 0), (1, 20, 0, 0), (1, 48, 0, 0), (1, 9, 0, 0), (0, 2, 0, 0), (1, 8, 0, 0), (1, 8, 0, 0), (1, 8, 0, 0), (1, 8, 0, 0), (1, 8, 0, 0), (1, 8, 0, 0), (1, 8, 0, 0), (1, 4, 0, 0), (1, 8, 0, 0), (1, 8, 0, 0), (1, 8, 0, 0), (1, 8, 0, 0), (0, 7, 0, 0), (1, 768, 0, 0), (2, 3, 0, 0), (2, 3, 0, 0), (0, 1, 0, 0), (1, 256, 0, 0), (1, 256, 0, 0), (0, 0, 0, 0), (1, 480, 0, 0), (1, 10, 0, 0), (1, 10, 0, 0), (4, 5, 0, 0)] (fgS (sR (emS (sR (emS Z0 7) 0 3 7) 13) 0 4 13) 32) [(4, 8, 9, 0), (1, 400, 1, 0), (0, 4, 0, 0), (0, 6, 0, 0), (1, 401, 0, 0), (1, 401, 0, 0), (1, 401, 0, 0), (0, 3, 0, 0), (1, 8, 0, 0), (1, 96, 0, 0), (1, 20, 0, 0), (1, 48, 0, 0), (1, 9, 0, 0), (0, 3, 0, 0), (1, 8, 0, 0), (1, 96, 0, 0), (1, 20, 0, 0), (1, 48, 0, 0), (1, 9, 0, 0), (0, 2, 0, 0), (1, 8, 0, 0), (1, 8, 0, 0), (1, 8, 0, 0), (1, 8, 0, 0), (1, 8, 0, 0), (1, 8, 0, 0), (1, 8, 0, 0), (1, 4, 0, 0), (1, 8, 0, 0), (1, 8, 0, 0), (1, 8, 0, 0), (1, 8, 0, 0), (0, 7, 0, 0), (1, 768, 0, 0), (2, 3, 0, 0), (2, 3, 0, 0), (0, 1, 0, 0), (1, 256, 0, 0), (1, 256, 0, 0), (0, 0, 0, 0), (1, 480, 0, 0), (1, 10, 0, 0), (1, 10, 0, 0), (0, 5, 0, 0), (1, 8, 0, 0), (1, 3, 0, 0), (1, 4, 0, 0)] (fgS (sR (emS (sR (emS Z0 7) 0 3 7) 13) 0 4 13) 32) := by
  intro l D cA ad base had
  refine Met.ofW (cc := prog_7_method_1_code) (maxL := 1) (ret := none) (by decide) rfl ?_
  intro p e s m args below meth c s₁ B hml hv
  obtain ⟨rfl, hz0, hP, hK, hXS, hAO, hNL⟩ := hv
  have hx := B.exec
  have hb := B.bytes
  have hr := B.returns
  have hts0 := atoms_spec (ws := wsM ⟨"TurnedRivers$Standing", "<init>", "()V"⟩ prog_7_method_1_code 1 none) B.pre
  have hts : ∀ w ∈ gw, w.before _ s = true := fun w hw => hts0 w (List.mem_cons_of_mem _ hw)
  have hown : s.vm.findClass "TurnedRivers$Standing" = some m.cls := findClass_of_methodNamed B.named
  have hlocks := B.notSynchronized
  have hin : meth.name = "<init>" := (name_of_methodNamed B.named B.method).1
  have hS : va_S (fun q => base ≤ q) s.heap s.heap [] := va_S.rf
  have hl := lv_entry ([.ref (ad 43)]) (n := 1) (Nat.le_of_ble_eq_true rfl)
  rw [lg_entry_eq]
  generalize (lg_sl ([.ref (ad 43)]) ++ List.replicate (1 - (lg_sl ([.ref (ad 43)])).length) Slot.unset).toArray = ls at hl ⊢
  have hl : lv_has ls 1 [(0, .ref (ad 43))] := hl
  have hz00 : s.heap.size = base + 44 := hz0
  have hz := hz00
  refine lv_aload_n hx hb (by decide +kernel : decode prog_7_method_1_code 0 = .ok (.aload_n 0, 1)) rfl (lv_at hl 0 rfl) ?_
  refine W.objInit hx hb hown (hts _ wd_322) (hts _ wd_103) (hts _ wd_104) rfl (by rw [hml]; exact hl.1) rfl (by decide +kernel : decode prog_7_method_1_code 1 = .ok (.invokespecial 3, 3)) (Nat.le_of_ble_eq_true rfl) (Nat.le_of_ble_eq_true rfl) ?_
  refine W.eq (g2 := F0 m 4 ls []) rfl ?_
  refine lv_aload_n hx hb (by decide +kernel : decode prog_7_method_1_code 4 = .ok (.aload_n 0, 1)) rfl (lv_at hl 0 rfl) ?_
  refine lv_bipush (n := 8) (v := 8) hx hb (by decide +kernel) (by decide) ?_
  refine dn_arr (atype := .int) (ty := .int) (t := 0) (N := 8) (a0 := (8, .inl (fun _ => 0))) (en := (1, 8, 0, 0)) hx hb hts hK had rfl wd_134 rfl (fun _ h => h) (fun _ => rfl) rfl hP hz hS (by decide) (by decide) (by decide) (by decide) (Nat.le_of_ble_eq_true rfl) (Nat.le_of_ble_eq_true rfl) (by decide +kernel) (fun H hP hz hS => ?_)
  have hP : va_P D cls (wsD [(4, 8, 9, 0), (1, 400, 1, 0), (0, 4, 0, 0), (0, 6, 0, 0), (1, 401, 0, 0), (1, 401, 0, 0), (1, 401, 0, 0), (0, 3, 0, 0), (1, 8, 0, 0), (1, 96, 0, 0), (1, 20, 0, 0), (1, 48, 0, 0), (1, 9, 0, 0), (0, 3, 0, 0), (1, 8, 0, 0), (1, 96, 0, 0), (1, 20, 0, 0), (1, 48, 0, 0), (1, 9, 0, 0), (0, 2, 0, 0), (1, 8, 0, 0), (1, 8, 0, 0), (1, 8, 0, 0), (1, 8, 0, 0), (1, 8, 0, 0), (1, 8, 0, 0), (1, 8, 0, 0), (1, 4, 0, 0), (1, 8, 0, 0), (1, 8, 0, 0), (1, 8, 0, 0), (1, 8, 0, 0), (0, 7, 0, 0), (1, 768, 0, 0), (2, 3, 0, 0), (2, 3, 0, 0), (0, 1, 0, 0), (1, 256, 0, 0), (1, 256, 0, 0), (0, 0, 0, 0), (1, 480, 0, 0), (1, 10, 0, 0), (1, 10, 0, 0), (4, 5, 0, 0), (1, 8, 0, 0)] cA ad (fgS (sR (emS (sR (emS Z0 7) 0 3 7) 13) 0 4 13) 32)) H := hP
  have hz : H.size = base + 45 := hz
  refine W.eq (g2 := F0 m 9 ls [.ref (ad 44), .ref (ad 43)]) rfl ?_
  refine dn_putF (a := 43) (j := 0) (j0 := 0) (z := 1) hx hb hts hown hin hK had tco_5 rfl (by decide) (by
      have h9 : ∀ i, i < 0 → 0 ≤ i → (((fks 5)[i]?.map (fun k => decide (k.1 < 2))).getD true) = true := by decide
      intro i kd h1 h2 h3
      have h8 := h9 i h2 h1
      rw [h3] at h8
      simpa using h8) wd_323 rfl rfl (fun _ => rfl) (fun _ => rfl) rfl hP hz hS (by decide) (by decide +kernel) (fun H locs hP hz hS => ?_)
  have hP : va_P D cls (wsD [(4, 8, 9, 0), (1, 400, 1, 0), (0, 4, 0, 0), (0, 6, 0, 0), (1, 401, 0, 0), (1, 401, 0, 0), (1, 401, 0, 0), (0, 3, 0, 0), (1, 8, 0, 0), (1, 96, 0, 0), (1, 20, 0, 0), (1, 48, 0, 0), (1, 9, 0, 0), (0, 3, 0, 0), (1, 8, 0, 0), (1, 96, 0, 0), (1, 20, 0, 0), (1, 48, 0, 0), (1, 9, 0, 0), (0, 2, 0, 0), (1, 8, 0, 0), (1, 8, 0, 0), (1, 8, 0, 0), (1, 8, 0, 0), (1, 8, 0, 0), (1, 8, 0, 0), (1, 8, 0, 0), (1, 4, 0, 0), (1, 8, 0, 0), (1, 8, 0, 0), (1, 8, 0, 0), (1, 8, 0, 0), (0, 7, 0, 0), (1, 768, 0, 0), (2, 3, 0, 0), (2, 3, 0, 0), (0, 1, 0, 0), (1, 256, 0, 0), (1, 256, 0, 0), (0, 0, 0, 0), (1, 480, 0, 0), (1, 10, 0, 0), (1, 10, 0, 0), (4, 5, 1, 0), (1, 8, 0, 0)] cA ad (fgS (sR (emS (sR (emS Z0 7) 0 3 7) 13) 0 4 13) 32)) H := hP
  have hz : H.size = base + 45 := hz
  refine lv_aload_n hx hb (by decide +kernel : decode prog_7_method_1_code 12 = .ok (.aload_n 0, 1)) rfl (lv_at hl 0 rfl) ?_
  refine lv_iconst (n := 3) (v := 3) hx hb (by decide +kernel) (by decide) ?_
  refine dn_arr (atype := .int) (ty := .int) (t := 0) (N := 3) (a0 := (3, .inl (fun _ => 0))) (en := (1, 3, 0, 0)) hx hb hts hK had rfl wd_134 rfl (fun _ h => h) (fun _ => rfl) rfl hP hz hS (by decide) (by decide) (by decide) (by decide) (Nat.le_of_ble_eq_true rfl) (Nat.le_of_ble_eq_true rfl) (by decide +kernel) (fun H hP hz hS => ?_)
  have hP : va_P D cls (wsD [(4, 8, 9, 0), (1, 400, 1, 0), (0, 4, 0, 0), (0, 6, 0, 0), (1, 401, 0, 0), (1, 401, 0, 0), (1, 401, 0, 0), (0, 3, 0, 0), (1, 8, 0, 0), (1, 96, 0, 0), (1, 20, 0, 0), (1, 48, 0, 0), (1, 9, 0, 0), (0, 3, 0, 0), (1, 8, 0, 0), (1, 96, 0, 0), (1, 20, 0, 0), (1, 48, 0, 0), (1, 9, 0, 0), (0, 2, 0, 0), (1, 8, 0, 0), (1, 8, 0, 0), (1, 8, 0, 0), (1, 8, 0, 0), (1, 8, 0, 0), (1, 8, 0, 0), (1, 8, 0, 0), (1, 4, 0, 0), (1, 8, 0, 0), (1, 8, 0, 0), (1, 8, 0, 0), (1, 8, 0, 0), (0, 7, 0, 0), (1, 768, 0, 0), (2, 3, 0, 0), (2, 3, 0, 0), (0, 1, 0, 0), (1, 256, 0, 0), (1, 256, 0, 0), (0, 0, 0, 0), (1, 480, 0, 0), (1, 10, 0, 0), (1, 10, 0, 0), (4, 5, 1, 0), (1, 8, 0, 0), (1, 3, 0, 0)] cA ad (fgS (sR (emS (sR (emS Z0 7) 0 3 7) 13) 0 4 13) 32)) H := hP
  have hz : H.size = base + 46 := hz
  refine W.eq (g2 := F0 m 16 ls [.ref (ad 45), .ref (ad 43)]) rfl ?_
  refine dn_putF (a := 43) (j := 1) (j0 := 1) (z := 2) hx hb hts hown hin hK had tco_5 rfl (by decide) (by
      have h9 : ∀ i, i < 1 → 1 ≤ i → (((fks 5)[i]?.map (fun k => decide (k.1 < 2))).getD true) = true := by decide
      intro i kd h1 h2 h3
      have h8 := h9 i h2 h1
      rw [h3] at h8
      simpa using h8) wd_325 rfl rfl (fun _ => rfl) (fun _ => rfl) rfl hP hz hS (by decide) (by decide +kernel) (fun H locs hP hz hS => ?_)
  have hP : va_P D cls (wsD [(4, 8, 9, 0), (1, 400, 1, 0), (0, 4, 0, 0), (0, 6, 0, 0), (1, 401, 0, 0), (1, 401, 0, 0), (1, 401, 0, 0), (0, 3, 0, 0), (1, 8, 0, 0), (1, 96, 0, 0), (1, 20, 0, 0), (1, 48, 0, 0), (1, 9, 0, 0), (0, 3, 0, 0), (1, 8, 0, 0), (1, 96, 0, 0), (1, 20, 0, 0), (1, 48, 0, 0), (1, 9, 0, 0), (0, 2, 0, 0), (1, 8, 0, 0), (1, 8, 0, 0), (1, 8, 0, 0), (1, 8, 0, 0), (1, 8, 0, 0), (1, 8, 0, 0), (1, 8, 0, 0), (1, 4, 0, 0), (1, 8, 0, 0), (1, 8, 0, 0), (1, 8, 0, 0), (1, 8, 0, 0), (0, 7, 0, 0), (1, 768, 0, 0), (2, 3, 0, 0), (2, 3, 0, 0), (0, 1, 0, 0), (1, 256, 0, 0), (1, 256, 0, 0), (0, 0, 0, 0), (1, 480, 0, 0), (1, 10, 0, 0), (1, 10, 0, 0), (4, 5, 2, 0), (1, 8, 0, 0), (1, 3, 0, 0)] cA ad (fgS (sR (emS (sR (emS Z0 7) 0 3 7) 13) 0 4 13) 32)) H := hP
  have hz : H.size = base + 46 := hz
  refine lv_aload_n hx hb (by decide +kernel : decode prog_7_method_1_code 19 = .ok (.aload_n 0, 1)) rfl (lv_at hl 0 rfl) ?_
  refine lv_iconst (n := 4) (v := 4) hx hb (by decide +kernel) (by decide) ?_
  refine dn_arr (atype := .int) (ty := .int) (t := 0) (N := 4) (a0 := (4, .inl (fun _ => 0))) (en := (1, 4, 0, 0)) hx hb hts hK had rfl wd_134 rfl (fun _ h => h) (fun _ => rfl) rfl hP hz hS (by decide) (by decide) (by decide) (by decide) (Nat.le_of_ble_eq_true rfl) (Nat.le_of_ble_eq_true rfl) (by decide +kernel) (fun H hP hz hS => ?_)
  have hP : va_P D cls (wsD [(4, 8, 9, 0), (1, 400, 1, 0), (0, 4, 0, 0), (0, 6, 0, 0), (1, 401, 0, 0), (1, 401, 0, 0), (1, 401, 0, 0), (0, 3, 0, 0), (1, 8, 0, 0), (1, 96, 0, 0), (1, 20, 0, 0), (1, 48, 0, 0), (1, 9, 0, 0), (0, 3, 0, 0), (1, 8, 0, 0), (1, 96, 0, 0), (1, 20, 0, 0), (1, 48, 0, 0), (1, 9, 0, 0), (0, 2, 0, 0), (1, 8, 0, 0), (1, 8, 0, 0), (1, 8, 0, 0), (1, 8, 0, 0), (1, 8, 0, 0), (1, 8, 0, 0), (1, 8, 0, 0), (1, 4, 0, 0), (1, 8, 0, 0), (1, 8, 0, 0), (1, 8, 0, 0), (1, 8, 0, 0), (0, 7, 0, 0), (1, 768, 0, 0), (2, 3, 0, 0), (2, 3, 0, 0), (0, 1, 0, 0), (1, 256, 0, 0), (1, 256, 0, 0), (0, 0, 0, 0), (1, 480, 0, 0), (1, 10, 0, 0), (1, 10, 0, 0), (4, 5, 2, 0), (1, 8, 0, 0), (1, 3, 0, 0), (1, 4, 0, 0)] cA ad (fgS (sR (emS (sR (emS Z0 7) 0 3 7) 13) 0 4 13) 32)) H := hP
  have hz : H.size = base + 47 := hz
  refine W.eq (g2 := F0 m 23 ls [.ref (ad 46), .ref (ad 43)]) rfl ?_
  refine dn_putF (a := 43) (j := 2) (j0 := 2) (z := 3) hx hb hts hown hin hK had tco_5 rfl (by decide) (by
      have h9 : ∀ i, i < 2 → 2 ≤ i → (((fks 5)[i]?.map (fun k => decide (k.1 < 2))).getD true) = true := by decide
      intro i kd h1 h2 h3
      have h8 := h9 i h2 h1
      rw [h3] at h8
      simpa using h8) wd_327 rfl rfl (fun _ => rfl) (fun _ => rfl) rfl hP hz hS (by decide) (by decide +kernel) (fun H locs hP hz hS => ?_)
  have hP : va_P D cls (wsD [(4, 8, 9, 0), (1, 400, 1, 0), (0, 4, 0, 0), (0, 6, 0, 0), (1, 401, 0, 0), (1, 401, 0, 0), (1, 401, 0, 0), (0, 3, 0, 0), (1, 8, 0, 0), (1, 96, 0, 0), (1, 20, 0, 0), (1, 48, 0, 0), (1, 9, 0, 0), (0, 3, 0, 0), (1, 8, 0, 0), (1, 96, 0, 0), (1, 20, 0, 0), (1, 48, 0, 0), (1, 9, 0, 0), (0, 2, 0, 0), (1, 8, 0, 0), (1, 8, 0, 0), (1, 8, 0, 0), (1, 8, 0, 0), (1, 8, 0, 0), (1, 8, 0, 0), (1, 8, 0, 0), (1, 4, 0, 0), (1, 8, 0, 0), (1, 8, 0, 0), (1, 8, 0, 0), (1, 8, 0, 0), (0, 7, 0, 0), (1, 768, 0, 0), (2, 3, 0, 0), (2, 3, 0, 0), (0, 1, 0, 0), (1, 256, 0, 0), (1, 256, 0, 0), (0, 0, 0, 0), (1, 480, 0, 0), (1, 10, 0, 0), (1, 10, 0, 0), (4, 5, 3, 0), (1, 8, 0, 0), (1, 3, 0, 0), (1, 4, 0, 0)] cA ad (fgS (sR (emS (sR (emS Z0 7) 0 3 7) 13) 0 4 13) 32)) H := hP
  have hz : H.size = base + 47 := hz
  have hP := dn_done hP (a := 43) (ci := 5) (j := 3) rfl (by
      have h9 : ∀ i, i < 3 → 3 ≤ i → (((fks 5)[i]?.map (fun k => decide (k.1 < 2))).getD true) = true := by decide
      intro i kd h1 h3
      have h8 := h9 i (List.getElem?_eq_some_iff.mp h3).1 h1
      rw [h3] at h8
      simpa using h8)
  have hP : va_P D cls (wsD [(4, 8, 9, 0), (1, 400, 1, 0), (0, 4, 0, 0), (0, 6, 0, 0), (1, 401, 0, 0), (1, 401, 0, 0), (1, 401, 0, 0), (0, 3, 0, 0), (1, 8, 0, 0), (1, 96, 0, 0), (1, 20, 0, 0), (1, 48, 0, 0), (1, 9, 0, 0), (0, 3, 0, 0), (1, 8, 0, 0), (1, 96, 0, 0), (1, 20, 0, 0), (1, 48, 0, 0), (1, 9, 0, 0), (0, 2, 0, 0), (1, 8, 0, 0), (1, 8, 0, 0), (1, 8, 0, 0), (1, 8, 0, 0), (1, 8, 0, 0), (1, 8, 0, 0), (1, 8, 0, 0), (1, 4, 0, 0), (1, 8, 0, 0), (1, 8, 0, 0), (1, 8, 0, 0), (1, 8, 0, 0), (0, 7, 0, 0), (1, 768, 0, 0), (2, 3, 0, 0), (2, 3, 0, 0), (0, 1, 0, 0), (1, 256, 0, 0), (1, 256, 0, 0), (0, 0, 0, 0), (1, 480, 0, 0), (1, 10, 0, 0), (1, 10, 0, 0), (0, 5, 0, 0), (1, 8, 0, 0), (1, 3, 0, 0), (1, 4, 0, 0)] cA ad (fgS (sR (emS (sR (emS Z0 7) 0 3 7) 13) 0 4 13) 32)) H := hP
  have hz : H.size = base + 47 := hz
  exact W.vret hx hb hr (fun t ht hW => ⟨⟨(), rfl, trivial, by rw [ht]; exact hz, by rw [ht]; exact hP, va_K.moved hW.alike hK, hXS.next ht hW hS, va_AO.moved hW.alike hAO, hNL.warm hW⟩, hS.F ht⟩) hS.2.2 (by decide +kernel) hlocks
set_option maxRecDepth 4000 in
theorem ci_SD_init_49 : ConI ⟨"TurnedRivers$Standing", "<init>", "()V"⟩ prog_7_method_1_code 1 1 3 15 49 [(0, 8, 0, 0), (1, 400, 1, 0), (0, 4, 0, 0), (0, 6, 0, 0), (1, 401, 0, 0), (1, 401, 0, 0), (1, 401, 0, 0), (0, 3, 0, 0), (1, 8, 0, 0), (1, 96, 0, 0), (1, 20, 0, 0), (1, 48, 0, 0), (1, 9, 0, 0), (0, 3, 0, 0), (1, 8, 0, 0), (1, 96, 0, 0), (1, 20, 0, 0), (1, 48, 0, 0), (1, 9, 0, 0), (0, 2, 0, 0), (1, 8, 0, 0), (1, 8, 0, 0), (1, 8, 0, 0), (1, 8, 0, 0), (1, 8, 0, 0), (1, 8, 0, 0), (1, 8, 0, 0), (1, 4, 0, 0), (1, 8, 0, 0), (1, 8, 0, 0), (1, 8, 0, 0), (1, 8, 0, 0), (0, 7, 0, 0), (1, 768, 0, 0), (2, 3, 0, 0), (2, 3, 0, 0), (0, 1, 0, 0), (1, 256, 0, 0), (1, 256, 0, 0), (0, 0, 0, 0), (1, 480, 0, 0), (1, 10, 0, 0), (1, 10, 0, 0), (0, 5, 0, 0), (1, 8, 0, 0), (1, 3, 0, 0), (1, 4, 0, 0), (5, 2, 49, 4), (1, 2, 2, 0), (4, 5, 0, 0)] (fgS (sR (emS (sR (emS Z0 7) 0 3 7) 13) 0 4 13) 32) [(0, 8, 0, 0), (1, 400, 1, 0), (0, 4, 0, 0), (0, 6, 0, 0), (1, 401, 0, 0), (1, 401, 0, 0), (1, 401, 0, 0), (0, 3, 0, 0), (1, 8, 0, 0), (1, 96, 0, 0), (1, 20, 0, 0), (1, 48, 0, 0), (1, 9, 0, 0), (0, 3, 0, 0), (1, 8, 0, 0), (1, 96, 0, 0), (1, 20, 0, 0), (1, 48, 0, 0), (1, 9, 0, 0), (0, 2, 0, 0), (1, 8, 0, 0), (1, 8, 0, 0), (1, 8, 0, 0), (1, 8, 0, 0), (1, 8, 0, 0), (1, 8, 0, 0), (1, 8, 0, 0), (1, 4, 0, 0), (1, 8, 0, 0), (1, 8, 0, 0), (1, 8, 0, 0), (1, 8, 0, 0), (0, 7, 0, 0), (1, 768, 0, 0), (2, 3, 0, 0), (2, 3, 0, 0), (0, 1, 0, 0), (1, 256, 0, 0), (1, 256, 0, 0), (0, 0, 0, 0), (1, 480, 0, 0), (1, 10, 0, 0), (1, 10, 0, 0), (0, 5, 0, 0), (1, 8, 0, 0), (1, 3, 0, 0), (1, 4, 0, 0), (5, 2, 49, 4), (1, 2, 2, 0), (0, 5, 0, 0), (1, 8, 0, 0), (1, 3, 0, 0), (1, 4, 0, 0)] (fgS (sR (emS (sR (emS Z0 7) 0 3 7) 13) 0 4 13) 32) := by
  intro l D cA ad base had
  refine Met.ofW (cc := prog_7_method_1_code) (maxL := 1) (ret := none) (by decide) rfl ?_
  intro p e s m args below meth c s₁ B hml hv
  obtain ⟨rfl, hz0, hP, hK, hXS, hAO, hNL⟩ := hv
  have hx := B.exec
  have hb := B.bytes
  have hr := B.returns
  have hts0 := atoms_spec (ws := wsM ⟨"TurnedRivers$Standing", "<init>", "()V"⟩ prog_7_method_1_code 1 none) B.pre
  have hts : ∀ w ∈ gw, w.before _ s = true := fun w hw => hts0 w (List.mem_cons_of_mem _ hw)
  have hown : s.vm.findClass "TurnedRivers$Standing" = some m.cls := findClass_of_methodNamed B.named
  have hlocks := B.notSynchronized
  have hin : meth.name = "<init>" := (name_of_methodNamed B.named B.method).1
  have hS : va_S (fun q => base ≤ q) s.heap s.heap [] := va_S.rf
  have hl := lv_entry ([.ref (ad 49)]) (n := 1) (Nat.le_of_ble_eq_true rfl)
  rw [lg_entry_eq]
  generalize (lg_sl ([.ref (ad 49)]) ++ List.replicate (1 - (lg_sl ([.ref (ad 49)])).length) Slot.unset).toArray = ls at hl ⊢
  have hl : lv_has ls 1 [(0, .ref (ad 49))] := hl
  have hz00 : s.heap.size = base + 50 := hz0
  have hz := hz00
  refine lv_aload_n hx hb (by decide +kernel : decode prog_7_method_1_code 0 = .ok (.aload_n 0, 1)) rfl (lv_at hl 0 rfl) ?_
  refine W.objInit hx hb hown (hts _ wd_322) (hts _ wd_103) (hts _ wd_104) rfl (by rw [hml]; exact hl.1) rfl (by decide +kernel : decode prog_7_method_1_code 1 = .ok (.invokespecial 3, 3)) (Nat.le_of_ble_eq_true rfl) (Nat.le_of_ble_eq_true rfl) ?_
  refine W.eq (g2 := F0 m 4 ls []) rfl ?_
  refine lv_aload_n hx hb (by decide +kernel : decode prog_7_method_1_code 4 = .ok (.aload_n 0, 1)) rfl (lv_at hl 0 rfl) ?_
  refine lv_bipush (n := 8) (v := 8) hx hb (by decide +kernel) (by decide) ?_
  refine dn_arr (atype := .int) (ty := .int) (t := 0) (N := 8) (a0 := (8, .inl (fun _ => 0))) (en := (1, 8, 0, 0)) hx hb hts hK had rfl wd_134 rfl (fun _ h => h) (fun _ => rfl) rfl hP hz hS (by decide) (by decide) (by decide) (by decide) (Nat.le_of_ble_eq_true rfl) (Nat.le_of_ble_eq_true rfl) (by decide +kernel) (fun H hP hz hS => ?_)
  have hP : va_P D cls (wsD [(0, 8, 0, 0), (1, 400, 1, 0), (0, 4, 0, 0), (0, 6, 0, 0), (1, 401, 0, 0), (1, 401, 0, 0), (1, 401, 0, 0), (0, 3, 0, 0), (1, 8, 0, 0), (1, 96, 0, 0), (1, 20, 0, 0), (1, 48, 0, 0), (1, 9, 0, 0), (0, 3, 0, 0), (1, 8, 0, 0), (1, 96, 0, 0), (1, 20, 0, 0), (1, 48, 0, 0), (1, 9, 0, 0), (0, 2, 0, 0), (1, 8, 0, 0), (1, 8, 0, 0), (1, 8, 0, 0), (1, 8, 0, 0), (1, 8, 0, 0), (1, 8, 0, 0), (1, 8, 0, 0), (1, 4, 0, 0), (1, 8, 0, 0), (1, 8, 0, 0), (1, 8, 0, 0), (1, 8, 0, 0), (0, 7, 0, 0), (1, 768, 0, 0), (2, 3, 0, 0), (2, 3, 0, 0), (0, 1, 0, 0), (1, 256, 0, 0), (1, 256, 0, 0), (0, 0, 0, 0), (1, 480, 0, 0), (1, 10, 0, 0), (1, 10, 0, 0), (0, 5, 0, 0), (1, 8, 0, 0), (1, 3, 0, 0), (1, 4, 0, 0), (5, 2, 49, 4), (1, 2, 2, 0), (4, 5, 0, 0), (1, 8, 0, 0)] cA ad (fgS (sR (emS (sR (emS Z0 7) 0 3 7) 13) 0 4 13) 32)) H := hP
  have hz : H.size = base + 51 := hz
  refine W.eq (g2 := F0 m 9 ls [.ref (ad 50), .ref (ad 49)]) rfl ?_
  refine dn_putF (a := 49) (j := 0) (j0 := 0) (z := 1) hx hb hts hown hin hK had tco_5 rfl (by decide) (by
      have h9 : ∀ i, i < 0 → 0 ≤ i → (((fks 5)[i]?.map (fun k => decide (k.1 < 2))).getD true) = true := by decide
      intro i kd h1 h2 h3
      have h8 := h9 i h2 h1
      rw [h3] at h8
      simpa using h8) wd_323 rfl rfl (fun _ => rfl) (fun _ => rfl) rfl hP hz hS (by decide) (by decide +kernel) (fun H locs hP hz hS => ?_)
  have hP : va_P D cls (wsD [(0, 8, 0, 0), (1, 400, 1, 0), (0, 4, 0, 0), (0, 6, 0, 0), (1, 401, 0, 0), (1, 401, 0, 0), (1, 401, 0, 0), (0, 3, 0, 0), (1, 8, 0, 0), (1, 96, 0, 0), (1, 20, 0, 0), (1, 48, 0, 0), (1, 9, 0, 0), (0, 3, 0, 0), (1, 8, 0, 0), (1, 96, 0, 0), (1, 20, 0, 0), (1, 48, 0, 0), (1, 9, 0, 0), (0, 2, 0, 0), (1, 8, 0, 0), (1, 8, 0, 0), (1, 8, 0, 0), (1, 8, 0, 0), (1, 8, 0, 0), (1, 8, 0, 0), (1, 8, 0, 0), (1, 4, 0, 0), (1, 8, 0, 0), (1, 8, 0, 0), (1, 8, 0, 0), (1, 8, 0, 0), (0, 7, 0, 0), (1, 768, 0, 0), (2, 3, 0, 0), (2, 3, 0, 0), (0, 1, 0, 0), (1, 256, 0, 0), (1, 256, 0, 0), (0, 0, 0, 0), (1, 480, 0, 0), (1, 10, 0, 0), (1, 10, 0, 0), (0, 5, 0, 0), (1, 8, 0, 0), (1, 3, 0, 0), (1, 4, 0, 0), (5, 2, 49, 4), (1, 2, 2, 0), (4, 5, 1, 0), (1, 8, 0, 0)] cA ad (fgS (sR (emS (sR (emS Z0 7) 0 3 7) 13) 0 4 13) 32)) H := hP
  have hz : H.size = base + 51 := hz
  refine lv_aload_n hx hb (by decide +kernel : decode prog_7_method_1_code 12 = .ok (.aload_n 0, 1)) rfl (lv_at hl 0 rfl) ?_
  refine lv_iconst (n := 3) (v := 3) hx hb (by decide +kernel) (by decide) ?_
  refine dn_arr (atype := .int) (ty := .int) (t := 0) (N := 3) (a0 := (3, .inl (fun _ => 0))) (en := (1, 3, 0, 0)) hx hb hts hK had rfl wd_134 rfl (fun _ h => h) (fun _ => rfl) rfl hP hz hS (by decide) (by decide) (by decide) (by decide) (Nat.le_of_ble_eq_true rfl) (Nat.le_of_ble_eq_true rfl) (by decide +kernel) (fun H hP hz hS => ?_)
  have hP : va_P D cls (wsD [(0, 8, 0, 0), (1, 400, 1, 0), (0, 4, 0, 0), (0, 6, 0, 0), (1, 401, 0, 0), (1, 401, 0, 0), (1, 401, 0, 0), (0, 3, 0, 0), (1, 8, 0, 0), (1, 96, 0, 0), (1, 20, 0, 0), (1, 48, 0, 0), (1, 9, 0, 0), (0, 3, 0, 0), (1, 8, 0, 0), (1, 96, 0, 0), (1, 20, 0, 0), (1, 48, 0, 0), (1, 9, 0, 0), (0, 2, 0, 0), (1, 8, 0, 0), (1, 8, 0, 0), (1, 8, 0, 0), (1, 8, 0, 0), (1, 8, 0, 0), (1, 8, 0, 0), (1, 8, 0, 0), (1, 4, 0, 0), (1, 8, 0, 0), (1, 8, 0, 0), (1, 8, 0, 0), (1, 8, 0, 0), (0, 7, 0, 0), (1, 768, 0, 0), (2, 3, 0, 0), (2, 3, 0, 0), (0, 1, 0, 0), (1, 256, 0, 0), (1, 256, 0, 0), (0, 0, 0, 0), (1, 480, 0, 0), (1, 10, 0, 0), (1, 10, 0, 0), (0, 5, 0, 0), (1, 8, 0, 0), (1, 3, 0, 0), (1, 4, 0, 0), (5, 2, 49, 4), (1, 2, 2, 0), (4, 5, 1, 0), (1, 8, 0, 0), (1, 3, 0, 0)] cA ad (fgS (sR (emS (sR (emS Z0 7) 0 3 7) 13) 0 4 13) 32)) H := hP
  have hz : H.size = base + 52 := hz
  refine W.eq (g2 := F0 m 16 ls [.ref (ad 51), .ref (ad 49)]) rfl ?_
  refine dn_putF (a := 49) (j := 1) (j0 := 1) (z := 2) hx hb hts hown hin hK had tco_5 rfl (by decide) (by
      have h9 : ∀ i, i < 1 → 1 ≤ i → (((fks 5)[i]?.map (fun k => decide (k.1 < 2))).getD true) = true := by decide
      intro i kd h1 h2 h3
      have h8 := h9 i h2 h1
      rw [h3] at h8
      simpa using h8) wd_325 rfl rfl (fun _ => rfl) (fun _ => rfl) rfl hP hz hS (by decide) (by decide +kernel) (fun H locs hP hz hS => ?_)
  have hP : va_P D cls (wsD [(0, 8, 0, 0), (1, 400, 1, 0), (0, 4, 0, 0), (0, 6, 0, 0), (1, 401, 0, 0), (1, 401, 0, 0), (1, 401, 0, 0), (0, 3, 0, 0), (1, 8, 0, 0), (1, 96, 0, 0), (1, 20, 0, 0), (1, 48, 0, 0), (1, 9, 0, 0), (0, 3, 0, 0), (1, 8, 0, 0), (1, 96, 0, 0), (1, 20, 0, 0), (1, 48, 0, 0), (1, 9, 0, 0), (0, 2, 0, 0), (1, 8, 0, 0), (1, 8, 0, 0), (1, 8, 0, 0), (1, 8, 0, 0), (1, 8, 0, 0), (1, 8, 0, 0), (1, 8, 0, 0), (1, 4, 0, 0), (1, 8, 0, 0), (1, 8, 0, 0), (1, 8, 0, 0), (1, 8, 0, 0), (0, 7, 0, 0), (1, 768, 0, 0), (2, 3, 0, 0), (2, 3, 0, 0), (0, 1, 0, 0), (1, 256, 0, 0), (1, 256, 0, 0), (0, 0, 0, 0), (1, 480, 0, 0), (1, 10, 0, 0), (1, 10, 0, 0), (0, 5, 0, 0), (1, 8, 0, 0), (1, 3, 0, 0), (1, 4, 0, 0), (5, 2, 49, 4), (1, 2, 2, 0), (4, 5, 2, 0), (1, 8, 0, 0), (1, 3, 0, 0)] cA ad (fgS (sR (emS (sR (emS Z0 7) 0 3 7) 13) 0 4 13) 32)) H := hP
  have hz : H.size = base + 52 := hz
  refine lv_aload_n hx hb (by decide +kernel : decode prog_7_method_1_code 19 = .ok (.aload_n 0, 1)) rfl (lv_at hl 0 rfl) ?_
  refine lv_iconst (n := 4) (v := 4) hx hb (by decide +kernel) (by decide) ?_
  refine dn_arr (atype := .int) (ty := .int) (t := 0) (N := 4) (a0 := (4, .inl (fun _ => 0))) (en := (1, 4, 0, 0)) hx hb hts hK had rfl wd_134 rfl (fun _ h => h) (fun _ => rfl) rfl hP hz hS (by decide) (by decide) (by decide) (by decide) (Nat.le_of_ble_eq_true rfl) (Nat.le_of_ble_eq_true rfl) (by decide +kernel) (fun H hP hz hS => ?_)
  have hP : va_P D cls (wsD [(0, 8, 0, 0), (1, 400, 1, 0), (0, 4, 0, 0), (0, 6, 0, 0), (1, 401, 0, 0), (1, 401, 0, 0), (1, 401, 0, 0), (0, 3, 0, 0), (1, 8, 0, 0), (1, 96, 0, 0), (1, 20, 0, 0), (1, 48, 0, 0), (1, 9, 0, 0), (0, 3, 0, 0), (1, 8, 0, 0), (1, 96, 0, 0), (1, 20, 0, 0), (1, 48, 0, 0), (1, 9, 0, 0), (0, 2, 0, 0), (1, 8, 0, 0), (1, 8, 0, 0), (1, 8, 0, 0), (1, 8, 0, 0), (1, 8, 0, 0), (1, 8, 0, 0), (1, 8, 0, 0), (1, 4, 0, 0), (1, 8, 0, 0), (1, 8, 0, 0), (1, 8, 0, 0), (1, 8, 0, 0), (0, 7, 0, 0), (1, 768, 0, 0), (2, 3, 0, 0), (2, 3, 0, 0), (0, 1, 0, 0), (1, 256, 0, 0), (1, 256, 0, 0), (0, 0, 0, 0), (1, 480, 0, 0), (1, 10, 0, 0), (1, 10, 0, 0), (0, 5, 0, 0), (1, 8, 0, 0), (1, 3, 0, 0), (1, 4, 0, 0), (5, 2, 49, 4), (1, 2, 2, 0), (4, 5, 2, 0), (1, 8, 0, 0), (1, 3, 0, 0), (1, 4, 0, 0)] cA ad (fgS (sR (emS (sR (emS Z0 7) 0 3 7) 13) 0 4 13) 32)) H := hP
  have hz : H.size = base + 53 := hz
  refine W.eq (g2 := F0 m 23 ls [.ref (ad 52), .ref (ad 49)]) rfl ?_
  refine dn_putF (a := 49) (j := 2) (j0 := 2) (z := 3) hx hb hts hown hin hK had tco_5 rfl (by decide) (by
      have h9 : ∀ i, i < 2 → 2 ≤ i → (((fks 5)[i]?.map (fun k => decide (k.1 < 2))).getD true) = true := by decide
      intro i kd h1 h2 h3
      have h8 := h9 i h2 h1
      rw [h3] at h8
      simpa using h8) wd_327 rfl rfl (fun _ => rfl) (fun _ => rfl) rfl hP hz hS (by decide) (by decide +kernel) (fun H locs hP hz hS => ?_)
  have hP : va_P D cls (wsD [(0, 8, 0, 0), (1, 400, 1, 0), (0, 4, 0, 0), (0, 6, 0, 0), (1, 401, 0, 0), (1, 401, 0, 0), (1, 401, 0, 0), (0, 3, 0, 0), (1, 8, 0, 0), (1, 96, 0, 0), (1, 20, 0, 0), (1, 48, 0, 0), (1, 9, 0, 0), (0, 3, 0, 0), (1, 8, 0, 0), (1, 96, 0, 0), (1, 20, 0, 0), (1, 48, 0, 0), (1, 9, 0, 0), (0, 2, 0, 0), (1, 8, 0, 0), (1, 8, 0, 0), (1, 8, 0, 0), (1, 8, 0, 0), (1, 8, 0, 0), (1, 8, 0, 0), (1, 8, 0, 0), (1, 4, 0, 0), (1, 8, 0, 0), (1, 8, 0, 0), (1, 8, 0, 0), (1, 8, 0, 0), (0, 7, 0, 0), (1, 768, 0, 0), (2, 3, 0, 0), (2, 3, 0, 0), (0, 1, 0, 0), (1, 256, 0, 0), (1, 256, 0, 0), (0, 0, 0, 0), (1, 480, 0, 0), (1, 10, 0, 0), (1, 10, 0, 0), (0, 5, 0, 0), (1, 8, 0, 0), (1, 3, 0, 0), (1, 4, 0, 0), (5, 2, 49, 4), (1, 2, 2, 0), (4, 5, 3, 0), (1, 8, 0, 0), (1, 3, 0, 0), (1, 4, 0, 0)] cA ad (fgS (sR (emS (sR (emS Z0 7) 0 3 7) 13) 0 4 13) 32)) H := hP
  have hz : H.size = base + 53 := hz
  have hP := dn_done hP (a := 49) (ci := 5) (j := 3) rfl (by
      have h9 : ∀ i, i < 3 → 3 ≤ i → (((fks 5)[i]?.map (fun k => decide (k.1 < 2))).getD true) = true := by decide
      intro i kd h1 h3
      have h8 := h9 i (List.getElem?_eq_some_iff.mp h3).1 h1
      rw [h3] at h8
      simpa using h8)
  have hP : va_P D cls (wsD [(0, 8, 0, 0), (1, 400, 1, 0), (0, 4, 0, 0), (0, 6, 0, 0), (1, 401, 0, 0), (1, 401, 0, 0), (1, 401, 0, 0), (0, 3, 0, 0), (1, 8, 0, 0), (1, 96, 0, 0), (1, 20, 0, 0), (1, 48, 0, 0), (1, 9, 0, 0), (0, 3, 0, 0), (1, 8, 0, 0), (1, 96, 0, 0), (1, 20, 0, 0), (1, 48, 0, 0), (1, 9, 0, 0), (0, 2, 0, 0), (1, 8, 0, 0), (1, 8, 0, 0), (1, 8, 0, 0), (1, 8, 0, 0), (1, 8, 0, 0), (1, 8, 0, 0), (1, 8, 0, 0), (1, 4, 0, 0), (1, 8, 0, 0), (1, 8, 0, 0), (1, 8, 0, 0), (1, 8, 0, 0), (0, 7, 0, 0), (1, 768, 0, 0), (2, 3, 0, 0), (2, 3, 0, 0), (0, 1, 0, 0), (1, 256, 0, 0), (1, 256, 0, 0), (0, 0, 0, 0), (1, 480, 0, 0), (1, 10, 0, 0), (1, 10, 0, 0), (0, 5, 0, 0), (1, 8, 0, 0), (1, 3, 0, 0), (1, 4, 0, 0), (5, 2, 49, 4), (1, 2, 2, 0), (0, 5, 0, 0), (1, 8, 0, 0), (1, 3, 0, 0), (1, 4, 0, 0)] cA ad (fgS (sR (emS (sR (emS Z0 7) 0 3 7) 13) 0 4 13) 32)) H := hP
  have hz : H.size = base + 53 := hz
  exact W.vret hx hb hr (fun t ht hW => ⟨⟨(), rfl, trivial, by rw [ht]; exact hz, by rw [ht]; exact hP, va_K.moved hW.alike hK, hXS.next ht hW hS, va_AO.moved hW.alike hAO, hNL.warm hW⟩, hS.F ht⟩) hS.2.2 (by decide +kernel) hlocks
set_option maxRecDepth 4000 in
theorem ci_SD_init_53 : ConI ⟨"TurnedRivers$Standing", "<init>", "()V"⟩ prog_7_method_1_code 1 1 3 15 53 [(0, 8, 0, 0), (1, 400, 1, 0), (0, 4, 0, 0), (0, 6, 0, 0), (1, 401, 0, 0), (1, 401, 0, 0), (1, 401, 0, 0), (0, 3, 0, 0), (1, 8, 0, 0), (1, 96, 0, 0), (1, 20, 0, 0), (1, 48, 0, 0), (1, 9, 0, 0), (0, 3, 0, 0), (1, 8, 0, 0), (1, 96, 0, 0), (1, 20, 0, 0), (1, 48, 0, 0), (1, 9, 0, 0), (0, 2, 0, 0), (1, 8, 0, 0), (1, 8, 0, 0), (1, 8, 0, 0), (1, 8, 0, 0), (1, 8, 0, 0), (1, 8, 0, 0), (1, 8, 0, 0), (1, 4, 0, 0), (1, 8, 0, 0), (1, 8, 0, 0), (1, 8, 0, 0), (1, 8, 0, 0), (0, 7, 0, 0), (1, 768, 0, 0), (2, 3, 0, 0), (2, 3, 0, 0), (0, 1, 0, 0), (1, 256, 0, 0), (1, 256, 0, 0), (0, 0, 0, 0), (1, 480, 0, 0), (1, 10, 0, 0), (1, 10, 0, 0), (0, 5, 0, 0), (1, 8, 0, 0), (1, 3, 0, 0), (1, 4, 0, 0), (6, 2, 49, 4), (1, 2, 2, 0), (0, 5, 0, 0), (1, 8, 0, 0), (1, 3, 0, 0), (1, 4, 0, 0), (4, 5, 0, 0)] (fgS (sR (emS (sR (emS Z0 7) 0 3 7) 13) 0 4 13) 32) [(0, 8, 0, 0), (1, 400, 1, 0), (0, 4, 0, 0), (0, 6, 0, 0), (1, 401, 0, 0), (1, 401, 0, 0), (1, 401, 0, 0), (0, 3, 0, 0), (1, 8, 0, 0), (1, 96, 0, 0), (1, 20, 0, 0), (1, 48, 0, 0), (1, 9, 0, 0), (0, 3, 0, 0), (1, 8, 0, 0), (1, 96, 0, 0), (1, 20, 0, 0), (1, 48, 0, 0), (1, 9, 0, 0), (0, 2, 0, 0), (1, 8, 0, 0), (1, 8, 0, 0), (1, 8, 0, 0), (1, 8, 0, 0), (1, 8, 0, 0), (1, 8, 0, 0), (1, 8, 0, 0), (1, 4, 0, 0), (1, 8, 0, 0), (1, 8, 0, 0), (1, 8, 0, 0), (1, 8, 0, 0), (0, 7, 0, 0), (1, 768, 0, 0), (2, 3, 0, 0), (2, 3, 0, 0), (0, 1, 0, 0), (1, 256, 0, 0), (1, 256, 0, 0), (0, 0, 0, 0), (1, 480, 0, 0), (1, 10, 0, 0), (1, 10, 0, 0), (0, 5, 0, 0), (1, 8, 0, 0), (1, 3, 0, 0), (1, 4, 0, 0), (6, 2, 49, 4), (1, 2, 2, 0), (0, 5, 0, 0), (1, 8, 0, 0), (1, 3, 0, 0), (1, 4, 0, 0), (0, 5, 0, 0), (1, 8, 0, 0), (1, 3, 0, 0), (1, 4, 0, 0)] (fgS (sR (emS (sR (emS Z0 7) 0 3 7) 13) 0 4 13) 32) := by
  intro l D cA ad base had
  refine Met.ofW (cc := prog_7_method_1_code) (maxL := 1) (ret := none) (by decide) rfl ?_
  intro p e s m args below meth c s₁ B hml hv
  obtain ⟨rfl, hz0, hP, hK, hXS, hAO, hNL⟩ := hv
  have hx := B.exec
  have hb := B.bytes
  have hr := B.returns
  have hts0 := atoms_spec (ws := wsM ⟨"TurnedRivers$Standing", "<init>", "()V"⟩ prog_7_method_1_code 1 none) B.pre
  have hts : ∀ w ∈ gw, w.before _ s = true := fun w hw => hts0 w (List.mem_cons_of_mem _ hw)
  have hown : s.vm.findClass "TurnedRivers$Standing" = some m.cls := findClass_of_methodNamed B.named
  have hlocks := B.notSynchronized
  have hin : meth.name = "<init>" := (name_of_methodNamed B.named B.method).1
  have hS : va_S (fun q => base ≤ q) s.heap s.heap [] := va_S.rf
  have hl := lv_entry ([.ref (ad 53)]) (n := 1) (Nat.le_of_ble_eq_true rfl)
  rw [lg_entry_eq]
  generalize (lg_sl ([.ref (ad 53)]) ++ List.replicate (1 - (lg_sl ([.ref (ad 53)])).length) Slot.unset).toArray = ls at hl ⊢
  have hl : lv_has ls 1 [(0, .ref (ad 53))] := hl
  have hz00 : s.heap.size = base + 54 := hz0
  have hz := hz00
  refine lv_aload_n hx hb (by decide +kernel : decode prog_7_method_1_code 0 = .ok (.aload_n 0, 1)) rfl (lv_at hl 0 rfl) ?_
  refine W.objInit hx hb hown (hts _ wd_322) (hts _ wd_103) (hts _ wd_104) rfl (by rw [hml]; exact hl.1) rfl (by decide +kernel : decode prog_7_method_1_code 1 = .ok (.invokespecial 3, 3)) (Nat.le_of_ble_eq_true rfl) (Nat.le_of_ble_eq_true rfl) ?_
  refine W.eq (g2 := F0 m 4 ls []) rfl ?_
  refine lv_aload_n hx hb (by decide +kernel : decode prog_7_method_1_code 4 = .ok (.aload_n 0, 1)) rfl (lv_at hl 0 rfl) ?_
  refine lv_bipush (n := 8) (v := 8) hx hb (by decide +kernel) (by decide) ?_
  refine dn_arr (atype := .int) (ty := .int) (t := 0) (N := 8) (a0 := (8, .inl (fun _ => 0))) (en := (1, 8, 0, 0)) hx hb hts hK had rfl wd_134 rfl (fun _ h => h) (fun _ => rfl) rfl hP hz hS (by decide) (by decide) (by decide) (by decide) (Nat.le_of_ble_eq_true rfl) (Nat.le_of_ble_eq_true rfl) (by decide +kernel) (fun H hP hz hS => ?_)
  have hP : va_P D cls (wsD [(0, 8, 0, 0), (1, 400, 1, 0), (0, 4, 0, 0), (0, 6, 0, 0), (1, 401, 0, 0), (1, 401, 0, 0), (1, 401, 0, 0), (0, 3, 0, 0), (1, 8, 0, 0), (1, 96, 0, 0), (1, 20, 0, 0), (1, 48, 0, 0), (1, 9, 0, 0), (0, 3, 0, 0), (1, 8, 0, 0), (1, 96, 0, 0), (1, 20, 0, 0), (1, 48, 0, 0), (1, 9, 0, 0), (0, 2, 0, 0), (1, 8, 0, 0), (1, 8, 0, 0), (1, 8, 0, 0), (1, 8, 0, 0), (1, 8, 0, 0), (1, 8, 0, 0), (1, 8, 0, 0), (1, 4, 0, 0), (1, 8, 0, 0), (1, 8, 0, 0), (1, 8, 0, 0), (1, 8, 0, 0), (0, 7, 0, 0), (1, 768, 0, 0), (2, 3, 0, 0), (2, 3, 0, 0), (0, 1, 0, 0), (1, 256, 0, 0), (1, 256, 0, 0), (0, 0, 0, 0), (1, 480, 0, 0), (1, 10, 0, 0), (1, 10, 0, 0), (0, 5, 0, 0), (1, 8, 0, 0), (1, 3, 0, 0), (1, 4, 0, 0), (6, 2, 49, 4), (1, 2, 2, 0), (0, 5, 0, 0), (1, 8, 0, 0), (1, 3, 0, 0), (1, 4, 0, 0), (4, 5, 0, 0), (1, 8, 0, 0)] cA ad (fgS (sR (emS (sR (emS Z0 7) 0 3 7) 13) 0 4 13) 32)) H := hP
  have hz : H.size = base + 55 := hz
  refine W.eq (g2 := F0 m 9 ls [.ref (ad 54), .ref (ad 53)]) rfl ?_
  refine dn_putF (a := 53) (j := 0) (j0 := 0) (z := 1) hx hb hts hown hin hK had tco_5 rfl (by decide) (by
      have h9 : ∀ i, i < 0 → 0 ≤ i → (((fks 5)[i]?.map (fun k => decide (k.1 < 2))).getD true) = true := by decide
      intro i kd h1 h2 h3
      have h8 := h9 i h2 h1
      rw [h3] at h8
      simpa using h8) wd_323 rfl rfl (fun _ => rfl) (fun _ => rfl) rfl hP hz hS (by decide) (by decide +kernel) (fun H locs hP hz hS => ?_)
  have hP : va_P D cls (wsD [(0, 8, 0, 0), (1, 400, 1, 0), (0, 4, 0, 0), (0, 6, 0, 0), (1, 401, 0, 0), (1, 401, 0, 0), (1, 401, 0, 0), (0, 3, 0, 0), (1, 8, 0, 0), (1, 96, 0, 0), (1, 20, 0, 0), (1, 48, 0, 0), (1, 9, 0, 0), (0, 3, 0, 0), (1, 8, 0, 0), (1, 96, 0, 0), (1, 20, 0, 0), (1, 48, 0, 0), (1, 9, 0, 0), (0, 2, 0, 0), (1, 8, 0, 0), (1, 8, 0, 0), (1, 8, 0, 0), (1, 8, 0, 0), (1, 8, 0, 0), (1, 8, 0, 0), (1, 8, 0, 0), (1, 4, 0, 0), (1, 8, 0, 0), (1, 8, 0, 0), (1, 8, 0, 0), (1, 8, 0, 0), (0, 7, 0, 0), (1, 768, 0, 0), (2, 3, 0, 0), (2, 3, 0, 0), (0, 1, 0, 0), (1, 256, 0, 0), (1, 256, 0, 0), (0, 0, 0, 0), (1, 480, 0, 0), (1, 10, 0, 0), (1, 10, 0, 0), (0, 5, 0, 0), (1, 8, 0, 0), (1, 3, 0, 0), (1, 4, 0, 0), (6, 2, 49, 4), (1, 2, 2, 0), (0, 5, 0, 0), (1, 8, 0, 0), (1, 3, 0, 0), (1, 4, 0, 0), (4, 5, 1, 0), (1, 8, 0, 0)] cA ad (fgS (sR (emS (sR (emS Z0 7) 0 3 7) 13) 0 4 13) 32)) H := hP
  have hz : H.size = base + 55 := hz
  refine lv_aload_n hx hb (by decide +kernel : decode prog_7_method_1_code 12 = .ok (.aload_n 0, 1)) rfl (lv_at hl 0 rfl) ?_
  refine lv_iconst (n := 3) (v := 3) hx hb (by decide +kernel) (by decide) ?_
  refine dn_arr (atype := .int) (ty := .int) (t := 0) (N := 3) (a0 := (3, .inl (fun _ => 0))) (en := (1, 3, 0, 0)) hx hb hts hK had rfl wd_134 rfl (fun _ h => h) (fun _ => rfl) rfl hP hz hS (by decide) (by decide) (by decide) (by decide) (Nat.le_of_ble_eq_true rfl) (Nat.le_of_ble_eq_true rfl) (by decide +kernel) (fun H hP hz hS => ?_)
  have hP : va_P D cls (wsD [(0, 8, 0, 0), (1, 400, 1, 0), (0, 4, 0, 0), (0, 6, 0, 0), (1, 401, 0, 0), (1, 401, 0, 0), (1, 401, 0, 0), (0, 3, 0, 0), (1, 8, 0, 0), (1, 96, 0, 0), (1, 20, 0, 0), (1, 48, 0, 0), (1, 9, 0, 0), (0, 3, 0, 0), (1, 8, 0, 0), (1, 96, 0, 0), (1, 20, 0, 0), (1, 48, 0, 0), (1, 9, 0, 0), (0, 2, 0, 0), (1, 8, 0, 0), (1, 8, 0, 0), (1, 8, 0, 0), (1, 8, 0, 0), (1, 8, 0, 0), (1, 8, 0, 0), (1, 8, 0, 0), (1, 4, 0, 0), (1, 8, 0, 0), (1, 8, 0, 0), (1, 8, 0, 0), (1, 8, 0, 0), (0, 7, 0, 0), (1, 768, 0, 0), (2, 3, 0, 0), (2, 3, 0, 0), (0, 1, 0, 0), (1, 256, 0, 0), (1, 256, 0, 0), (0, 0, 0, 0), (1, 480, 0, 0), (1, 10, 0, 0), (1, 10, 0, 0), (0, 5, 0, 0), (1, 8, 0, 0), (1, 3, 0, 0), (1, 4, 0, 0), (6, 2, 49, 4), (1, 2, 2, 0), (0, 5, 0, 0), (1, 8, 0, 0), (1, 3, 0, 0), (1, 4, 0, 0), (4, 5, 1, 0), (1, 8, 0, 0), (1, 3, 0, 0)] cA ad (fgS (sR (emS (sR (emS Z0 7) 0 3 7) 13) 0 4 13) 32)) H := hP
  have hz : H.size = base + 56 := hz
  refine W.eq (g2 := F0 m 16 ls [.ref (ad 55), .ref (ad 53)]) rfl ?_
  refine dn_putF (a := 53) (j := 1) (j0 := 1) (z := 2) hx hb hts hown hin hK had tco_5 rfl (by decide) (by
      have h9 : ∀ i, i < 1 → 1 ≤ i → (((fks 5)[i]?.map (fun k => decide (k.1 < 2))).getD true) = true := by decide
      intro i kd h1 h2 h3
      have h8 := h9 i h2 h1
      rw [h3] at h8
      simpa using h8) wd_325 rfl rfl (fun _ => rfl) (fun _ => rfl) rfl hP hz hS (by decide) (by decide +kernel) (fun H locs hP hz hS => ?_)
  have hP : va_P D cls (wsD [(0, 8, 0, 0), (1, 400, 1, 0), (0, 4, 0, 0), (0, 6, 0, 0), (1, 401, 0, 0), (1, 401, 0, 0), (1, 401, 0, 0), (0, 3, 0, 0), (1, 8, 0, 0), (1, 96, 0, 0), (1, 20, 0, 0), (1, 48, 0, 0), (1, 9, 0, 0), (0, 3, 0, 0), (1, 8, 0, 0), (1, 96, 0, 0), (1, 20, 0, 0), (1, 48, 0, 0), (1, 9, 0, 0), (0, 2, 0, 0), (1, 8, 0, 0), (1, 8, 0, 0), (1, 8, 0, 0), (1, 8, 0, 0), (1, 8, 0, 0), (1, 8, 0, 0), (1, 8, 0, 0), (1, 4, 0, 0), (1, 8, 0, 0), (1, 8, 0, 0), (1, 8, 0, 0), (1, 8, 0, 0), (0, 7, 0, 0), (1, 768, 0, 0), (2, 3, 0, 0), (2, 3, 0, 0), (0, 1, 0, 0), (1, 256, 0, 0), (1, 256, 0, 0), (0, 0, 0, 0), (1, 480, 0, 0), (1, 10, 0, 0), (1, 10, 0, 0), (0, 5, 0, 0), (1, 8, 0, 0), (1, 3, 0, 0), (1, 4, 0, 0), (6, 2, 49, 4), (1, 2, 2, 0), (0, 5, 0, 0), (1, 8, 0, 0), (1, 3, 0, 0), (1, 4, 0, 0), (4, 5, 2, 0), (1, 8, 0, 0), (1, 3, 0, 0)] cA ad (fgS (sR (emS (sR (emS Z0 7) 0 3 7) 13) 0 4 13) 32)) H := hP
  have hz : H.size = base + 56 := hz
  refine lv_aload_n hx hb (by decide +kernel : decode prog_7_method_1_code 19 = .ok (.aload_n 0, 1)) rfl (lv_at hl 0 rfl) ?_
  refine lv_iconst (n := 4) (v := 4) hx hb (by decide +kernel) (by decide) ?_
  refine dn_arr (atype := .int) (ty := .int) (t := 0) (N := 4) (a0 := (4, .inl (fun _ => 0))) (en := (1, 4, 0, 0)) hx hb hts hK had rfl wd_134 rfl (fun _ h => h) (fun _ => rfl) rfl hP hz hS (by decide) (by decide) (by decide) (by decide) (Nat.le_of_ble_eq_true rfl) (Nat.le_of_ble_eq_true rfl) (by decide +kernel) (fun H hP hz hS => ?_)
  have hP : va_P D cls (wsD [(0, 8, 0, 0), (1, 400, 1, 0), (0, 4, 0, 0), (0, 6, 0, 0), (1, 401, 0, 0), (1, 401, 0, 0), (1, 401, 0, 0), (0, 3, 0, 0), (1, 8, 0, 0), (1, 96, 0, 0), (1, 20, 0, 0), (1, 48, 0, 0), (1, 9, 0, 0), (0, 3, 0, 0), (1, 8, 0, 0), (1, 96, 0, 0), (1, 20, 0, 0), (1, 48, 0, 0), (1, 9, 0, 0), (0, 2, 0, 0), (1, 8, 0, 0), (1, 8, 0, 0), (1, 8, 0, 0), (1, 8, 0, 0), (1, 8, 0, 0), (1, 8, 0, 0), (1, 8, 0, 0), (1, 4, 0, 0), (1, 8, 0, 0), (1, 8, 0, 0), (1, 8, 0, 0), (1, 8, 0, 0), (0, 7, 0, 0), (1, 768, 0, 0), (2, 3, 0, 0), (2, 3, 0, 0), (0, 1, 0, 0), (1, 256, 0, 0), (1, 256, 0, 0), (0, 0, 0, 0), (1, 480, 0, 0), (1, 10, 0, 0), (1, 10, 0, 0), (0, 5, 0, 0), (1, 8, 0, 0), (1, 3, 0, 0), (1, 4, 0, 0), (6, 2, 49, 4), (1, 2, 2, 0), (0, 5, 0, 0), (1, 8, 0, 0), (1, 3, 0, 0), (1, 4, 0, 0), (4, 5, 2, 0), (1, 8, 0, 0), (1, 3, 0, 0), (1, 4, 0, 0)] cA ad (fgS (sR (emS (sR (emS Z0 7) 0 3 7) 13) 0 4 13) 32)) H := hP
  have hz : H.size = base + 57 := hz
  refine W.eq (g2 := F0 m 23 ls [.ref (ad 56), .ref (ad 53)]) rfl ?_
  refine dn_putF (a := 53) (j := 2) (j0 := 2) (z := 3) hx hb hts hown hin hK had tco_5 rfl (by decide) (by
      have h9 : ∀ i, i < 2 → 2 ≤ i → (((fks 5)[i]?.map (fun k => decide (k.1 < 2))).getD true) = true := by decide
      intro i kd h1 h2 h3
      have h8 := h9 i h2 h1
      rw [h3] at h8
      simpa using h8) wd_327 rfl rfl (fun _ => rfl) (fun _ => rfl) rfl hP hz hS (by decide) (by decide +kernel) (fun H locs hP hz hS => ?_)
  have hP : va_P D cls (wsD [(0, 8, 0, 0), (1, 400, 1, 0), (0, 4, 0, 0), (0, 6, 0, 0), (1, 401, 0, 0), (1, 401, 0, 0), (1, 401, 0, 0), (0, 3, 0, 0), (1, 8, 0, 0), (1, 96, 0, 0), (1, 20, 0, 0), (1, 48, 0, 0), (1, 9, 0, 0), (0, 3, 0, 0), (1, 8, 0, 0), (1, 96, 0, 0), (1, 20, 0, 0), (1, 48, 0, 0), (1, 9, 0, 0), (0, 2, 0, 0), (1, 8, 0, 0), (1, 8, 0, 0), (1, 8, 0, 0), (1, 8, 0, 0), (1, 8, 0, 0), (1, 8, 0, 0), (1, 8, 0, 0), (1, 4, 0, 0), (1, 8, 0, 0), (1, 8, 0, 0), (1, 8, 0, 0), (1, 8, 0, 0), (0, 7, 0, 0), (1, 768, 0, 0), (2, 3, 0, 0), (2, 3, 0, 0), (0, 1, 0, 0), (1, 256, 0, 0), (1, 256, 0, 0), (0, 0, 0, 0), (1, 480, 0, 0), (1, 10, 0, 0), (1, 10, 0, 0), (0, 5, 0, 0), (1, 8, 0, 0), (1, 3, 0, 0), (1, 4, 0, 0), (6, 2, 49, 4), (1, 2, 2, 0), (0, 5, 0, 0), (1, 8, 0, 0), (1, 3, 0, 0), (1, 4, 0, 0), (4, 5, 3, 0), (1, 8, 0, 0), (1, 3, 0, 0), (1, 4, 0, 0)] cA ad (fgS (sR (emS (sR (emS Z0 7) 0 3 7) 13) 0 4 13) 32)) H := hP
  have hz : H.size = base + 57 := hz
  have hP := dn_done hP (a := 53) (ci := 5) (j := 3) rfl (by
      have h9 : ∀ i, i < 3 → 3 ≤ i → (((fks 5)[i]?.map (fun k => decide (k.1 < 2))).getD true) = true := by decide
      intro i kd h1 h3
      have h8 := h9 i (List.getElem?_eq_some_iff.mp h3).1 h1
      rw [h3] at h8
      simpa using h8)
  have hP : va_P D cls (wsD [(0, 8, 0, 0), (1, 400, 1, 0), (0, 4, 0, 0), (0, 6, 0, 0), (1, 401, 0, 0), (1, 401, 0, 0), (1, 401, 0, 0), (0, 3, 0, 0), (1, 8, 0, 0), (1, 96, 0, 0), (1, 20, 0, 0), (1, 48, 0, 0), (1, 9, 0, 0), (0, 3, 0, 0), (1, 8, 0, 0), (1, 96, 0, 0), (1, 20, 0, 0), (1, 48, 0, 0), (1, 9, 0, 0), (0, 2, 0, 0), (1, 8, 0, 0), (1, 8, 0, 0), (1, 8, 0, 0), (1, 8, 0, 0), (1, 8, 0, 0), (1, 8, 0, 0), (1, 8, 0, 0), (1, 4, 0, 0), (1, 8, 0, 0), (1, 8, 0, 0), (1, 8, 0, 0), (1, 8, 0, 0), (0, 7, 0, 0), (1, 768, 0, 0), (2, 3, 0, 0), (2, 3, 0, 0), (0, 1, 0, 0), (1, 256, 0, 0), (1, 256, 0, 0), (0, 0, 0, 0), (1, 480, 0, 0), (1, 10, 0, 0), (1, 10, 0, 0), (0, 5, 0, 0), (1, 8, 0, 0), (1, 3, 0, 0), (1, 4, 0, 0), (6, 2, 49, 4), (1, 2, 2, 0), (0, 5, 0, 0), (1, 8, 0, 0), (1, 3, 0, 0), (1, 4, 0, 0), (0, 5, 0, 0), (1, 8, 0, 0), (1, 3, 0, 0), (1, 4, 0, 0)] cA ad (fgS (sR (emS (sR (emS Z0 7) 0 3 7) 13) 0 4 13) 32)) H := hP
  have hz : H.size = base + 57 := hz
  exact W.vret hx hb hr (fun t ht hW => ⟨⟨(), rfl, trivial, by rw [ht]; exact hz, by rw [ht]; exact hP, va_K.moved hW.alike hK, hXS.next ht hW hS, va_AO.moved hW.alike hAO, hNL.warm hW⟩, hS.F ht⟩) hS.2.2 (by decide +kernel) hlocks
