set_option maxRecDepth 4000 in
theorem ci_TR_init_0 : ConI ⟨"TurnedRivers", "<init>", "()V"⟩ prog_1_method_1_code 2 3 56 3951 0 [(4, 8, 0, 0)] Z0 [(0, 8, 0, 0), (1, 400, 1, 0), (0, 4, 0, 0), (0, 6, 0, 0), (1, 401, 0, 0), (1, 401, 0, 0), (1, 401, 0, 0), (0, 3, 0, 0), (1, 8, 0, 0), (1, 96, 0, 0), (1, 20, 0, 0), (1, 48, 0, 0), (1, 9, 0, 0), (0, 3, 0, 0), (1, 8, 0, 0), (1, 96, 0, 0), (1, 20, 0, 0), (1, 48, 0, 0), (1, 9, 0, 0), (0, 2, 0, 0), (1, 8, 0, 0), (1, 8, 0, 0), (1, 8, 0, 0), (1, 8, 0, 0), (1, 8, 0, 0), (1, 8, 0, 0), (1, 8, 0, 0), (1, 4, 0, 0), (1, 8, 0, 0), (1, 8, 0, 0), (1, 8, 0, 0), (1, 8, 0, 0), (0, 7, 0, 0), (1, 768, 0, 0), (2, 3, 0, 0), (2, 3, 0, 0), (0, 1, 0, 0), (1, 256, 0, 0), (1, 256, 0, 0), (0, 0, 0, 0), (1, 480, 0, 0), (1, 10, 0, 0), (1, 10, 0, 0), (0, 5, 0, 0), (1, 8, 0, 0), (1, 3, 0, 0), (1, 4, 0, 0), (3, 2, 49, 4), (1, 2, 2, 0), (0, 5, 0, 0), (1, 8, 0, 0), (1, 3, 0, 0), (1, 4, 0, 0), (0, 5, 0, 0), (1, 8, 0, 0), (1, 3, 0, 0), (1, 4, 0, 0)] (fgS (sR (emS (sR (emS Z0 7) 0 3 7) 13) 0 4 13) 32) := by
  intro l D cA ad base had
  refine Met.ofW (cc := prog_1_method_1_code) (maxL := 2) (ret := none) (by decide) rfl ?_
  intro p e s m args below meth c s₁ B hml hv
  obtain ⟨rfl, hz0, hP, hK, hXS, hAO, hNL⟩ := hv
  have hx := B.exec
  have hb := B.bytes
  have hr := B.returns
  have hts0 := atoms_spec (ws := wsM ⟨"TurnedRivers", "<init>", "()V"⟩ prog_1_method_1_code 2 none) B.pre
  have hts : ∀ w ∈ gw, w.before _ s = true := fun w hw => hts0 w (List.mem_cons_of_mem _ hw)
  have hown : s.vm.findClass "TurnedRivers" = some m.cls := findClass_of_methodNamed B.named
  have hlocks := B.notSynchronized
  have hin : meth.name = "<init>" := (name_of_methodNamed B.named B.method).1
  have hS : va_S (fun q => base ≤ q) s.heap s.heap [] := va_S.rf
  have hl := lv_entry ([.ref (ad 0)]) (n := 2) (Nat.le_of_ble_eq_true rfl)
  rw [lg_entry_eq]
  generalize (lg_sl ([.ref (ad 0)]) ++ List.replicate (2 - (lg_sl ([.ref (ad 0)])).length) Slot.unset).toArray = ls at hl ⊢
  have hl : lv_has ls 2 [(0, .ref (ad 0))] := hl
  have hz00 : s.heap.size = base + 1 := hz0
  have hz := hz00
  refine lv_aload_n hx hb (by decide +kernel : decode prog_1_method_1_code 0 = .ok (.aload_n 0, 1)) rfl (lv_at hl 0 rfl) ?_
  refine W.objInit hx hb hown (hts _ wd_102) (hts _ wd_103) (hts _ wd_104) rfl (by rw [hml]; exact hl.1) rfl (by decide +kernel : decode prog_1_method_1_code 1 = .ok (.invokespecial 3, 3)) (Nat.le_of_ble_eq_true rfl) (Nat.le_of_ble_eq_true rfl) ?_
  refine W.eq (g2 := F0 m 4 ls []) rfl ?_
  refine lv_aload_n hx hb (by decide +kernel : decode prog_1_method_1_code 4 = .ok (.aload_n 0, 1)) rfl (lv_at hl 0 rfl) ?_
  refine lv_sipush (n := 400) (v := 400) hx hb (by decide +kernel) (by decide) ?_
  refine dn_arr (atype := .byte) (ty := .byte) (t := 1) (N := 400) (a0 := (400, .inl (fun _ => 0))) (en := (1, 400, 1, 0)) hx hb hts hK had rfl wd_133 rfl (fun _ h => h) (fun _ => rfl) rfl hP hz hS (by decide) (by decide) (by decide) (by decide) (Nat.le_of_ble_eq_true rfl) (Nat.le_of_ble_eq_true rfl) (by decide +kernel) (fun H hP hz hS => ?_)
  have hP : va_P D cls (wsD [(4, 8, 0, 0), (1, 400, 1, 0)] cA ad Z0) H := hP
  have hz : H.size = base + 2 := hz
  refine W.eq (g2 := F0 m 10 ls [.ref (ad 1), .ref (ad 0)]) rfl ?_
  refine dn_putF (a := 0) (j := 0) (j0 := 0) (z := 1) hx hb hts hown hin hK had tco_8 rfl (by decide) (by
      have h9 : ∀ i, i < 0 → 0 ≤ i → (((fks 8)[i]?.map (fun k => decide (k.1 < 2))).getD true) = true := by decide
      intro i kd h1 h2 h3
      have h8 := h9 i h2 h1
      rw [h3] at h8
      simpa using h8) wd_337 rfl rfl (fun _ => rfl) (fun _ => rfl) rfl hP hz hS (by decide) (by decide +kernel) (fun H locs hP hz hS => ?_)
  have hP : va_P D cls (wsD [(4, 8, 1, 0), (1, 400, 1, 0)] cA ad Z0) H := hP
  have hz : H.size = base + 2 := hz
  refine lv_aload_n hx hb (by decide +kernel : decode prog_1_method_1_code 13 = .ok (.aload_n 0, 1)) rfl (lv_at hl 0 rfl) ?_
  refine dn_new hx hb hts hown hK had tco_4 (by decide) wd_105 wd_106 wd_80 hP hz hS (by decide) rfl rfl (Nat.le_of_ble_eq_true rfl) (Nat.le_of_ble_eq_true rfl) (by decide +kernel) (fun H hP hz hS => ?_)
  have hP : va_P D cls (wsD [(4, 8, 1, 0), (1, 400, 1, 0), (4, 4, 0, 0)] cA ad Z0) H := hP
  have hz : H.size = base + 3 := hz
  refine W.eq (g2 := F0 m 17 ls [.ref (ad 2), .ref (ad 0)]) rfl ?_
  refine lv_dup hx hb (by decide +kernel) rfl ?_
  refine dn_init (d := 3) hx hb hml hl.1 hts hown hK hXS hAO hNL had ci_RD_init_2 ⟨(Nat.le_of_ble_eq_true rfl), (Nat.le_of_ble_eq_true rfl)⟩ (by decide) (Or.inr hNL.1) wd_108 wd_80 wd_109 (by decide +kernel) rfl hP hz hS (Nat.le_of_ble_eq_true rfl) (Nat.le_of_ble_eq_true rfl) (Nat.le_of_ble_eq_true rfl) (by decide +kernel) (fun H locs hP hz hS => ?_)
  have hP : va_P D cls (wsD [(4, 8, 1, 0), (1, 400, 1, 0), (0, 4, 0, 0), (0, 6, 0, 0), (1, 401, 0, 0), (1, 401, 0, 0), (1, 401, 0, 0)] cA ad Z0) H := hP
  have hz : H.size = base + 7 := hz
  refine dn_putF (a := 0) (j := 2) (j0 := 1) (z := 2) hx hb hts hown hin hK had tco_8 rfl (by decide) (by
      have h9 : ∀ i, i < 2 → 1 ≤ i → (((fks 8)[i]?.map (fun k => decide (k.1 < 2))).getD true) = true := by decide
      intro i kd h1 h2 h3
      have h8 := h9 i h2 h1
      rw [h3] at h8
      simpa using h8) wd_339 rfl rfl (fun _ => rfl) (fun _ => rfl) rfl hP hz hS (by decide) (by decide +kernel) (fun H locs hP hz hS => ?_)
  have hP : va_P D cls (wsD [(4, 8, 3, 0), (1, 400, 1, 0), (0, 4, 0, 0), (0, 6, 0, 0), (1, 401, 0, 0), (1, 401, 0, 0), (1, 401, 0, 0)] cA ad Z0) H := hP
  have hz : H.size = base + 7 := hz
  refine lv_aload_n hx hb (by decide +kernel : decode prog_1_method_1_code 24 = .ok (.aload_n 0, 1)) rfl (lv_at hl 0 rfl) ?_
  refine dn_new hx hb hts hown hK had tco_3 (by decide) wd_142 wd_143 wd_82 hP hz hS (by decide) rfl rfl (Nat.le_of_ble_eq_true rfl) (Nat.le_of_ble_eq_true rfl) (by decide +kernel) (fun H hP hz hS => ?_)
  have hP : va_P D cls (wsD [(4, 8, 3, 0), (1, 400, 1, 0), (0, 4, 0, 0), (0, 6, 0, 0), (1, 401, 0, 0), (1, 401, 0, 0), (1, 401, 0, 0), (4, 3, 0, 0)] cA ad Z0) H := hP
  have hz : H.size = base + 8 := hz
  refine W.eq (g2 := F0 m 28 ls [.ref (ad 7), .ref (ad 0)]) rfl ?_
  refine lv_dup hx hb (by decide +kernel) rfl ?_
  refine dn_init (d := 3) hx hb hml hl.1 hts hown hK hXS hAO hNL had ci_LD_init_7 ⟨(Nat.le_of_ble_eq_true rfl), (Nat.le_of_ble_eq_true rfl)⟩ (by decide) (Or.inl wd_144) wd_145 wd_82 wd_146 (by decide +kernel) rfl hP hz hS (Nat.le_of_ble_eq_true rfl) (Nat.le_of_ble_eq_true rfl) (Nat.le_of_ble_eq_true rfl) (by decide +kernel) (fun H locs hP hz hS => ?_)
  have hP : va_P D cls (wsD [(4, 8, 3, 0), (1, 400, 1, 0), (0, 4, 0, 0), (0, 6, 0, 0), (1, 401, 0, 0), (1, 401, 0, 0), (1, 401, 0, 0), (0, 3, 0, 0), (1, 8, 0, 0), (1, 96, 0, 0), (1, 20, 0, 0), (1, 48, 0, 0), (1, 9, 0, 0)] cA ad (emS Z0 7)) H := hP
  have hz : H.size = base + 13 := hz
  refine dn_putR (a := 0) (j := 3) (j0 := 3) (b := 7) hx hb hts hown hK had tco_8 rfl (by decide) (by
      have h9 : ∀ i, i < 3 → 3 ≤ i → (((fks 8)[i]?.map (fun k => decide (k.1 < 2))).getD true) = true := by decide
      intro i kd h1 h2 h3
      have h8 := h9 i h2 h1
      rw [h3] at h8
      simpa using h8) wd_340 rfl (fun _ => rfl) (fun _ => rfl) rfl hP hz hS (by decide) (by decide +kernel) (fun H locs hP hz hS => ?_)
  have hP : va_P D cls (wsD [(4, 8, 4, 0), (1, 400, 1, 0), (0, 4, 0, 0), (0, 6, 0, 0), (1, 401, 0, 0), (1, 401, 0, 0), (1, 401, 0, 0), (0, 3, 0, 0), (1, 8, 0, 0), (1, 96, 0, 0), (1, 20, 0, 0), (1, 48, 0, 0), (1, 9, 0, 0)] cA ad (sR (emS Z0 7) 0 3 7)) H := hP
  have hz : H.size = base + 13 := hz
  refine lv_aload_n hx hb (by decide +kernel : decode prog_1_method_1_code 35 = .ok (.aload_n 0, 1)) rfl (lv_at hl 0 rfl) ?_
  refine dn_new hx hb hts hown hK had tco_3 (by decide) wd_142 wd_143 wd_82 hP hz hS (by decide) rfl rfl (Nat.le_of_ble_eq_true rfl) (Nat.le_of_ble_eq_true rfl) (by decide +kernel) (fun H hP hz hS => ?_)
  have hP : va_P D cls (wsD [(4, 8, 4, 0), (1, 400, 1, 0), (0, 4, 0, 0), (0, 6, 0, 0), (1, 401, 0, 0), (1, 401, 0, 0), (1, 401, 0, 0), (0, 3, 0, 0), (1, 8, 0, 0), (1, 96, 0, 0), (1, 20, 0, 0), (1, 48, 0, 0), (1, 9, 0, 0), (4, 3, 0, 0)] cA ad (sR (emS Z0 7) 0 3 7)) H := hP
  have hz : H.size = base + 14 := hz
  refine W.eq (g2 := F0 m 39 ls [.ref (ad 13), .ref (ad 0)]) rfl ?_
  refine lv_dup hx hb (by decide +kernel) rfl ?_
  refine dn_init (d := 3) hx hb hml hl.1 hts hown hK hXS hAO hNL had ci_LD_init_13 ⟨(Nat.le_of_ble_eq_true rfl), (Nat.le_of_ble_eq_true rfl)⟩ (by decide) (Or.inl wd_144) wd_145 wd_82 wd_146 (by decide +kernel) rfl hP hz hS (Nat.le_of_ble_eq_true rfl) (Nat.le_of_ble_eq_true rfl) (Nat.le_of_ble_eq_true rfl) (by decide +kernel) (fun H locs hP hz hS => ?_)
  have hP : va_P D cls (wsD [(4, 8, 4, 0), (1, 400, 1, 0), (0, 4, 0, 0), (0, 6, 0, 0), (1, 401, 0, 0), (1, 401, 0, 0), (1, 401, 0, 0), (0, 3, 0, 0), (1, 8, 0, 0), (1, 96, 0, 0), (1, 20, 0, 0), (1, 48, 0, 0), (1, 9, 0, 0), (0, 3, 0, 0), (1, 8, 0, 0), (1, 96, 0, 0), (1, 20, 0, 0), (1, 48, 0, 0), (1, 9, 0, 0)] cA ad (emS (sR (emS Z0 7) 0 3 7) 13)) H := hP
  have hz : H.size = base + 19 := hz
  refine dn_putR (a := 0) (j := 4) (j0 := 4) (b := 13) hx hb hts hown hK had tco_8 rfl (by decide) (by
      have h9 : ∀ i, i < 4 → 4 ≤ i → (((fks 8)[i]?.map (fun k => decide (k.1 < 2))).getD true) = true := by decide
      intro i kd h1 h2 h3
      have h8 := h9 i h2 h1
      rw [h3] at h8
      simpa using h8) wd_341 rfl (fun _ => rfl) (fun _ => rfl) rfl hP hz hS (by decide) (by decide +kernel) (fun H locs hP hz hS => ?_)
  have hP : va_P D cls (wsD [(4, 8, 5, 0), (1, 400, 1, 0), (0, 4, 0, 0), (0, 6, 0, 0), (1, 401, 0, 0), (1, 401, 0, 0), (1, 401, 0, 0), (0, 3, 0, 0), (1, 8, 0, 0), (1, 96, 0, 0), (1, 20, 0, 0), (1, 48, 0, 0), (1, 9, 0, 0), (0, 3, 0, 0), (1, 8, 0, 0), (1, 96, 0, 0), (1, 20, 0, 0), (1, 48, 0, 0), (1, 9, 0, 0)] cA ad (sR (emS (sR (emS Z0 7) 0 3 7) 13) 0 4 13)) H := hP
  have hz : H.size = base + 19 := hz
  refine lv_aload_n hx hb (by decide +kernel : decode prog_1_method_1_code 46 = .ok (.aload_n 0, 1)) rfl (lv_at hl 0 rfl) ?_
  refine dn_new hx hb hts hown hK had tco_2 (by decide) wd_207 wd_208 wd_84 hP hz hS (by decide) rfl rfl (Nat.le_of_ble_eq_true rfl) (Nat.le_of_ble_eq_true rfl) (by decide +kernel) (fun H hP hz hS => ?_)
  have hP : va_P D cls (wsD [(4, 8, 5, 0), (1, 400, 1, 0), (0, 4, 0, 0), (0, 6, 0, 0), (1, 401, 0, 0), (1, 401, 0, 0), (1, 401, 0, 0), (0, 3, 0, 0), (1, 8, 0, 0), (1, 96, 0, 0), (1, 20, 0, 0), (1, 48, 0, 0), (1, 9, 0, 0), (0, 3, 0, 0), (1, 8, 0, 0), (1, 96, 0, 0), (1, 20, 0, 0), (1, 48, 0, 0), (1, 9, 0, 0), (4, 2, 0, 0)] cA ad (sR (emS (sR (emS Z0 7) 0 3 7) 13) 0 4 13)) H := hP
  have hz : H.size = base + 20 := hz
  refine W.eq (g2 := F0 m 50 ls [.ref (ad 19), .ref (ad 0)]) rfl ?_
  refine lv_dup hx hb (by decide +kernel) rfl ?_
  refine dn_init (d := 3) hx hb hml hl.1 hts hown hK hXS hAO hNL had ci_FL_init_19 ⟨(Nat.le_of_ble_eq_true rfl), (Nat.le_of_ble_eq_true rfl)⟩ (by decide) (Or.inr hNL.2.2.1) wd_210 wd_84 wd_211 (by decide +kernel) rfl hP hz hS (Nat.le_of_ble_eq_true rfl) (Nat.le_of_ble_eq_true rfl) (Nat.le_of_ble_eq_true rfl) (by decide +kernel) (fun H locs hP hz hS => ?_)
  have hP : va_P D cls (wsD [(4, 8, 5, 0), (1, 400, 1, 0), (0, 4, 0, 0), (0, 6, 0, 0), (1, 401, 0, 0), (1, 401, 0, 0), (1, 401, 0, 0), (0, 3, 0, 0), (1, 8, 0, 0), (1, 96, 0, 0), (1, 20, 0, 0), (1, 48, 0, 0), (1, 9, 0, 0), (0, 3, 0, 0), (1, 8, 0, 0), (1, 96, 0, 0), (1, 20, 0, 0), (1, 48, 0, 0), (1, 9, 0, 0), (0, 2, 0, 0), (1, 8, 0, 0), (1, 8, 0, 0), (1, 8, 0, 0), (1, 8, 0, 0), (1, 8, 0, 0), (1, 8, 0, 0), (1, 8, 0, 0), (1, 4, 0, 0), (1, 8, 0, 0), (1, 8, 0, 0), (1, 8, 0, 0), (1, 8, 0, 0)] cA ad (sR (emS (sR (emS Z0 7) 0 3 7) 13) 0 4 13)) H := hP
  have hz : H.size = base + 32 := hz
  refine dn_putF (a := 0) (j := 5) (j0 := 5) (z := 19) hx hb hts hown hin hK had tco_8 rfl (by decide) (by
      have h9 : ∀ i, i < 5 → 5 ≤ i → (((fks 8)[i]?.map (fun k => decide (k.1 < 2))).getD true) = true := by decide
      intro i kd h1 h2 h3
      have h8 := h9 i h2 h1
      rw [h3] at h8
      simpa using h8) wd_342 rfl rfl (fun _ => rfl) (fun _ => rfl) rfl hP hz hS (by decide) (by decide +kernel) (fun H locs hP hz hS => ?_)
  have hP : va_P D cls (wsD [(4, 8, 6, 0), (1, 400, 1, 0), (0, 4, 0, 0), (0, 6, 0, 0), (1, 401, 0, 0), (1, 401, 0, 0), (1, 401, 0, 0), (0, 3, 0, 0), (1, 8, 0, 0), (1, 96, 0, 0), (1, 20, 0, 0), (1, 48, 0, 0), (1, 9, 0, 0), (0, 3, 0, 0), (1, 8, 0, 0), (1, 96, 0, 0), (1, 20, 0, 0), (1, 48, 0, 0), (1, 9, 0, 0), (0, 2, 0, 0), (1, 8, 0, 0), (1, 8, 0, 0), (1, 8, 0, 0), (1, 8, 0, 0), (1, 8, 0, 0), (1, 8, 0, 0), (1, 8, 0, 0), (1, 4, 0, 0), (1, 8, 0, 0), (1, 8, 0, 0), (1, 8, 0, 0), (1, 8, 0, 0)] cA ad (sR (emS (sR (emS Z0 7) 0 3 7) 13) 0 4 13)) H := hP
  have hz : H.size = base + 32 := hz
  refine lv_aload_n hx hb (by decide +kernel : decode prog_1_method_1_code 57 = .ok (.aload_n 0, 1)) rfl (lv_at hl 0 rfl) ?_
  refine dn_new hx hb hts hown hK had tco_7 (by decide) wd_261 wd_262 wd_85 hP hz hS (by decide) rfl rfl (Nat.le_of_ble_eq_true rfl) (Nat.le_of_ble_eq_true rfl) (by decide +kernel) (fun H hP hz hS => ?_)
  have hP : va_P D cls (wsD [(4, 8, 6, 0), (1, 400, 1, 0), (0, 4, 0, 0), (0, 6, 0, 0), (1, 401, 0, 0), (1, 401, 0, 0), (1, 401, 0, 0), (0, 3, 0, 0), (1, 8, 0, 0), (1, 96, 0, 0), (1, 20, 0, 0), (1, 48, 0, 0), (1, 9, 0, 0), (0, 3, 0, 0), (1, 8, 0, 0), (1, 96, 0, 0), (1, 20, 0, 0), (1, 48, 0, 0), (1, 9, 0, 0), (0, 2, 0, 0), (1, 8, 0, 0), (1, 8, 0, 0), (1, 8, 0, 0), (1, 8, 0, 0), (1, 8, 0, 0), (1, 8, 0, 0), (1, 8, 0, 0), (1, 4, 0, 0), (1, 8, 0, 0), (1, 8, 0, 0), (1, 8, 0, 0), (1, 8, 0, 0), (4, 7, 0, 0)] cA ad (sR (emS (sR (emS Z0 7) 0 3 7) 13) 0 4 13)) H := hP
  have hz : H.size = base + 33 := hz
  refine W.eq (g2 := F0 m 61 ls [.ref (ad 32), .ref (ad 0)]) rfl ?_
  refine lv_dup hx hb (by decide +kernel) rfl ?_
  refine dn_init (d := 3) hx hb hml hl.1 hts hown hK hXS hAO hNL had ci_YR_init_32 ⟨(Nat.le_of_ble_eq_true rfl), (Nat.le_of_ble_eq_true rfl)⟩ (by decide) (Or.inl wd_263) wd_264 wd_85 wd_265 (by decide +kernel) rfl hP hz hS (Nat.le_of_ble_eq_true rfl) (Nat.le_of_ble_eq_true rfl) (Nat.le_of_ble_eq_true rfl) (by decide +kernel) (fun H locs hP hz hS => ?_)
  have hP : va_P D cls (wsD [(4, 8, 6, 0), (1, 400, 1, 0), (0, 4, 0, 0), (0, 6, 0, 0), (1, 401, 0, 0), (1, 401, 0, 0), (1, 401, 0, 0), (0, 3, 0, 0), (1, 8, 0, 0), (1, 96, 0, 0), (1, 20, 0, 0), (1, 48, 0, 0), (1, 9, 0, 0), (0, 3, 0, 0), (1, 8, 0, 0), (1, 96, 0, 0), (1, 20, 0, 0), (1, 48, 0, 0), (1, 9, 0, 0), (0, 2, 0, 0), (1, 8, 0, 0), (1, 8, 0, 0), (1, 8, 0, 0), (1, 8, 0, 0), (1, 8, 0, 0), (1, 8, 0, 0), (1, 8, 0, 0), (1, 4, 0, 0), (1, 8, 0, 0), (1, 8, 0, 0), (1, 8, 0, 0), (1, 8, 0, 0), (0, 7, 0, 0), (1, 768, 0, 0), (2, 3, 0, 0), (2, 3, 0, 0)] cA ad (fgS (sR (emS (sR (emS Z0 7) 0 3 7) 13) 0 4 13) 32)) H := hP
  have hz : H.size = base + 36 := hz
  refine dn_putF (a := 0) (j := 6) (j0 := 6) (z := 32) hx hb hts hown hin hK had tco_8 rfl (by decide) (by
      have h9 : ∀ i, i < 6 → 6 ≤ i → (((fks 8)[i]?.map (fun k => decide (k.1 < 2))).getD true) = true := by decide
      intro i kd h1 h2 h3
      have h8 := h9 i h2 h1
      rw [h3] at h8
      simpa using h8) wd_343 rfl rfl (fun _ => rfl) (fun _ => rfl) rfl hP hz hS (by decide) (by decide +kernel) (fun H locs hP hz hS => ?_)
  have hP : va_P D cls (wsD [(4, 8, 7, 0), (1, 400, 1, 0), (0, 4, 0, 0), (0, 6, 0, 0), (1, 401, 0, 0), (1, 401, 0, 0), (1, 401, 0, 0), (0, 3, 0, 0), (1, 8, 0, 0), (1, 96, 0, 0), (1, 20, 0, 0), (1, 48, 0, 0), (1, 9, 0, 0), (0, 3, 0, 0), (1, 8, 0, 0), (1, 96, 0, 0), (1, 20, 0, 0), (1, 48, 0, 0), (1, 9, 0, 0), (0, 2, 0, 0), (1, 8, 0, 0), (1, 8, 0, 0), (1, 8, 0, 0), (1, 8, 0, 0), (1, 8, 0, 0), (1, 8, 0, 0), (1, 8, 0, 0), (1, 4, 0, 0), (1, 8, 0, 0), (1, 8, 0, 0), (1, 8, 0, 0), (1, 8, 0, 0), (0, 7, 0, 0), (1, 768, 0, 0), (2, 3, 0, 0), (2, 3, 0, 0)] cA ad (fgS (sR (emS (sR (emS Z0 7) 0 3 7) 13) 0 4 13) 32)) H := hP
  have hz : H.size = base + 36 := hz
  refine lv_aload_n hx hb (by decide +kernel : decode prog_1_method_1_code 68 = .ok (.aload_n 0, 1)) rfl (lv_at hl 0 rfl) ?_
  refine dn_new hx hb hts hown hK had tco_1 (by decide) wd_283 wd_284 wd_86 hP hz hS (by decide) rfl rfl (Nat.le_of_ble_eq_true rfl) (Nat.le_of_ble_eq_true rfl) (by decide +kernel) (fun H hP hz hS => ?_)
  have hP : va_P D cls (wsD [(4, 8, 7, 0), (1, 400, 1, 0), (0, 4, 0, 0), (0, 6, 0, 0), (1, 401, 0, 0), (1, 401, 0, 0), (1, 401, 0, 0), (0, 3, 0, 0), (1, 8, 0, 0), (1, 96, 0, 0), (1, 20, 0, 0), (1, 48, 0, 0), (1, 9, 0, 0), (0, 3, 0, 0), (1, 8, 0, 0), (1, 96, 0, 0), (1, 20, 0, 0), (1, 48, 0, 0), (1, 9, 0, 0), (0, 2, 0, 0), (1, 8, 0, 0), (1, 8, 0, 0), (1, 8, 0, 0), (1, 8, 0, 0), (1, 8, 0, 0), (1, 8, 0, 0), (1, 8, 0, 0), (1, 4, 0, 0), (1, 8, 0, 0), (1, 8, 0, 0), (1, 8, 0, 0), (1, 8, 0, 0), (0, 7, 0, 0), (1, 768, 0, 0), (2, 3, 0, 0), (2, 3, 0, 0), (4, 1, 0, 0)] cA ad (fgS (sR (emS (sR (emS Z0 7) 0 3 7) 13) 0 4 13) 32)) H := hP
  have hz : H.size = base + 37 := hz
  refine W.eq (g2 := F0 m 72 ls [.ref (ad 36), .ref (ad 0)]) rfl ?_
  refine lv_dup hx hb (by decide +kernel) rfl ?_
  refine dn_init (d := 3) hx hb hml hl.1 hts hown hK hXS hAO hNL had ci_DG_init_36 ⟨(Nat.le_of_ble_eq_true rfl), (Nat.le_of_ble_eq_true rfl)⟩ (by decide) (Or.inr hNL.2.2.2.1) wd_286 wd_86 wd_287 (by decide +kernel) rfl hP hz hS (Nat.le_of_ble_eq_true rfl) (Nat.le_of_ble_eq_true rfl) (Nat.le_of_ble_eq_true rfl) (by decide +kernel) (fun H locs hP hz hS => ?_)
  have hP : va_P D cls (wsD [(4, 8, 7, 0), (1, 400, 1, 0), (0, 4, 0, 0), (0, 6, 0, 0), (1, 401, 0, 0), (1, 401, 0, 0), (1, 401, 0, 0), (0, 3, 0, 0), (1, 8, 0, 0), (1, 96, 0, 0), (1, 20, 0, 0), (1, 48, 0, 0), (1, 9, 0, 0), (0, 3, 0, 0), (1, 8, 0, 0), (1, 96, 0, 0), (1, 20, 0, 0), (1, 48, 0, 0), (1, 9, 0, 0), (0, 2, 0, 0), (1, 8, 0, 0), (1, 8, 0, 0), (1, 8, 0, 0), (1, 8, 0, 0), (1, 8, 0, 0), (1, 8, 0, 0), (1, 8, 0, 0), (1, 4, 0, 0), (1, 8, 0, 0), (1, 8, 0, 0), (1, 8, 0, 0), (1, 8, 0, 0), (0, 7, 0, 0), (1, 768, 0, 0), (2, 3, 0, 0), (2, 3, 0, 0), (0, 1, 0, 0), (1, 256, 0, 0), (1, 256, 0, 0)] cA ad (fgS (sR (emS (sR (emS Z0 7) 0 3 7) 13) 0 4 13) 32)) H := hP
  have hz : H.size = base + 39 := hz
  refine dn_putF (a := 0) (j := 7) (j0 := 7) (z := 36) hx hb hts hown hin hK had tco_8 rfl (by decide) (by
      have h9 : ∀ i, i < 7 → 7 ≤ i → (((fks 8)[i]?.map (fun k => decide (k.1 < 2))).getD true) = true := by decide
      intro i kd h1 h2 h3
      have h8 := h9 i h2 h1
      rw [h3] at h8
      simpa using h8) wd_344 rfl rfl (fun _ => rfl) (fun _ => rfl) rfl hP hz hS (by decide) (by decide +kernel) (fun H locs hP hz hS => ?_)
  have hP : va_P D cls (wsD [(4, 8, 8, 0), (1, 400, 1, 0), (0, 4, 0, 0), (0, 6, 0, 0), (1, 401, 0, 0), (1, 401, 0, 0), (1, 401, 0, 0), (0, 3, 0, 0), (1, 8, 0, 0), (1, 96, 0, 0), (1, 20, 0, 0), (1, 48, 0, 0), (1, 9, 0, 0), (0, 3, 0, 0), (1, 8, 0, 0), (1, 96, 0, 0), (1, 20, 0, 0), (1, 48, 0, 0), (1, 9, 0, 0), (0, 2, 0, 0), (1, 8, 0, 0), (1, 8, 0, 0), (1, 8, 0, 0), (1, 8, 0, 0), (1, 8, 0, 0), (1, 8, 0, 0), (1, 8, 0, 0), (1, 4, 0, 0), (1, 8, 0, 0), (1, 8, 0, 0), (1, 8, 0, 0), (1, 8, 0, 0), (0, 7, 0, 0), (1, 768, 0, 0), (2, 3, 0, 0), (2, 3, 0, 0), (0, 1, 0, 0), (1, 256, 0, 0), (1, 256, 0, 0)] cA ad (fgS (sR (emS (sR (emS Z0 7) 0 3 7) 13) 0 4 13) 32)) H := hP
  have hz : H.size = base + 39 := hz
  refine lv_aload_n hx hb (by decide +kernel : decode prog_1_method_1_code 79 = .ok (.aload_n 0, 1)) rfl (lv_at hl 0 rfl) ?_
  refine dn_new hx hb hts hown hK had tco_0 (by decide) wd_297 wd_298 wd_87 hP hz hS (by decide) rfl rfl (Nat.le_of_ble_eq_true rfl) (Nat.le_of_ble_eq_true rfl) (by decide +kernel) (fun H hP hz hS => ?_)
  have hP : va_P D cls (wsD [(4, 8, 8, 0), (1, 400, 1, 0), (0, 4, 0, 0), (0, 6, 0, 0), (1, 401, 0, 0), (1, 401, 0, 0), (1, 401, 0, 0), (0, 3, 0, 0), (1, 8, 0, 0), (1, 96, 0, 0), (1, 20, 0, 0), (1, 48, 0, 0), (1, 9, 0, 0), (0, 3, 0, 0), (1, 8, 0, 0), (1, 96, 0, 0), (1, 20, 0, 0), (1, 48, 0, 0), (1, 9, 0, 0), (0, 2, 0, 0), (1, 8, 0, 0), (1, 8, 0, 0), (1, 8, 0, 0), (1, 8, 0, 0), (1, 8, 0, 0), (1, 8, 0, 0), (1, 8, 0, 0), (1, 4, 0, 0), (1, 8, 0, 0), (1, 8, 0, 0), (1, 8, 0, 0), (1, 8, 0, 0), (0, 7, 0, 0), (1, 768, 0, 0), (2, 3, 0, 0), (2, 3, 0, 0), (0, 1, 0, 0), (1, 256, 0, 0), (1, 256, 0, 0), (4, 0, 0, 0)] cA ad (fgS (sR (emS (sR (emS Z0 7) 0 3 7) 13) 0 4 13) 32)) H := hP
  have hz : H.size = base + 40 := hz
  refine W.eq (g2 := F0 m 83 ls [.ref (ad 39), .ref (ad 0)]) rfl ?_
  refine lv_dup hx hb (by decide +kernel) rfl ?_
  refine dn_init (d := 3) hx hb hml hl.1 hts hown hK hXS hAO hNL had ci_DP_init_39 ⟨(Nat.le_of_ble_eq_true rfl), (Nat.le_of_ble_eq_true rfl)⟩ (by decide) (Or.inr hNL.2.2.2.2.1) wd_300 wd_87 wd_301 (by decide +kernel) rfl hP hz hS (Nat.le_of_ble_eq_true rfl) (Nat.le_of_ble_eq_true rfl) (Nat.le_of_ble_eq_true rfl) (by decide +kernel) (fun H locs hP hz hS => ?_)
  have hP : va_P D cls (wsD [(4, 8, 8, 0), (1, 400, 1, 0), (0, 4, 0, 0), (0, 6, 0, 0), (1, 401, 0, 0), (1, 401, 0, 0), (1, 401, 0, 0), (0, 3, 0, 0), (1, 8, 0, 0), (1, 96, 0, 0), (1, 20, 0, 0), (1, 48, 0, 0), (1, 9, 0, 0), (0, 3, 0, 0), (1, 8, 0, 0), (1, 96, 0, 0), (1, 20, 0, 0), (1, 48, 0, 0), (1, 9, 0, 0), (0, 2, 0, 0), (1, 8, 0, 0), (1, 8, 0, 0), (1, 8, 0, 0), (1, 8, 0, 0), (1, 8, 0, 0), (1, 8, 0, 0), (1, 8, 0, 0), (1, 4, 0, 0), (1, 8, 0, 0), (1, 8, 0, 0), (1, 8, 0, 0), (1, 8, 0, 0), (0, 7, 0, 0), (1, 768, 0, 0), (2, 3, 0, 0), (2, 3, 0, 0), (0, 1, 0, 0), (1, 256, 0, 0), (1, 256, 0, 0), (0, 0, 0, 0), (1, 480, 0, 0), (1, 10, 0, 0), (1, 10, 0, 0)] cA ad (fgS (sR (emS (sR (emS Z0 7) 0 3 7) 13) 0 4 13) 32)) H := hP
  have hz : H.size = base + 43 := hz
  refine dn_putF (a := 0) (j := 8) (j0 := 8) (z := 39) hx hb hts hown hin hK had tco_8 rfl (by decide) (by
      have h9 : ∀ i, i < 8 → 8 ≤ i → (((fks 8)[i]?.map (fun k => decide (k.1 < 2))).getD true) = true := by decide
      intro i kd h1 h2 h3
      have h8 := h9 i h2 h1
      rw [h3] at h8
      simpa using h8) wd_345 rfl rfl (fun _ => rfl) (fun _ => rfl) rfl hP hz hS (by decide) (by decide +kernel) (fun H locs hP hz hS => ?_)
  have hP : va_P D cls (wsD [(4, 8, 9, 0), (1, 400, 1, 0), (0, 4, 0, 0), (0, 6, 0, 0), (1, 401, 0, 0), (1, 401, 0, 0), (1, 401, 0, 0), (0, 3, 0, 0), (1, 8, 0, 0), (1, 96, 0, 0), (1, 20, 0, 0), (1, 48, 0, 0), (1, 9, 0, 0), (0, 3, 0, 0), (1, 8, 0, 0), (1, 96, 0, 0), (1, 20, 0, 0), (1, 48, 0, 0), (1, 9, 0, 0), (0, 2, 0, 0), (1, 8, 0, 0), (1, 8, 0, 0), (1, 8, 0, 0), (1, 8, 0, 0), (1, 8, 0, 0), (1, 8, 0, 0), (1, 8, 0, 0), (1, 4, 0, 0), (1, 8, 0, 0), (1, 8, 0, 0), (1, 8, 0, 0), (1, 8, 0, 0), (0, 7, 0, 0), (1, 768, 0, 0), (2, 3, 0, 0), (2, 3, 0, 0), (0, 1, 0, 0), (1, 256, 0, 0), (1, 256, 0, 0), (0, 0, 0, 0), (1, 480, 0, 0), (1, 10, 0, 0), (1, 10, 0, 0)] cA ad (fgS (sR (emS (sR (emS Z0 7) 0 3 7) 13) 0 4 13) 32)) H := hP
  have hz : H.size = base + 43 := hz
  refine lv_aload_n hx hb (by decide +kernel : decode prog_1_method_1_code 90 = .ok (.aload_n 0, 1)) rfl (lv_at hl 0 rfl) ?_
  refine dn_new hx hb hts hown hK had tco_5 (by decide) wd_317 wd_318 wd_88 hP hz hS (by decide) rfl rfl (Nat.le_of_ble_eq_true rfl) (Nat.le_of_ble_eq_true rfl) (by decide +kernel) (fun H hP hz hS => ?_)
  have hP : va_P D cls (wsD [(4, 8, 9, 0), (1, 400, 1, 0), (0, 4, 0, 0), (0, 6, 0, 0), (1, 401, 0, 0), (1, 401, 0, 0), (1, 401, 0, 0), (0, 3, 0, 0), (1, 8, 0, 0), (1, 96, 0, 0), (1, 20, 0, 0), (1, 48, 0, 0), (1, 9, 0, 0), (0, 3, 0, 0), (1, 8, 0, 0), (1, 96, 0, 0), (1, 20, 0, 0), (1, 48, 0, 0), (1, 9, 0, 0), (0, 2, 0, 0), (1, 8, 0, 0), (1, 8, 0, 0), (1, 8, 0, 0), (1, 8, 0, 0), (1, 8, 0, 0), (1, 8, 0, 0), (1, 8, 0, 0), (1, 4, 0, 0), (1, 8, 0, 0), (1, 8, 0, 0), (1, 8, 0, 0), (1, 8, 0, 0), (0, 7, 0, 0), (1, 768, 0, 0), (2, 3, 0, 0), (2, 3, 0, 0), (0, 1, 0, 0), (1, 256, 0, 0), (1, 256, 0, 0), (0, 0, 0, 0), (1, 480, 0, 0), (1, 10, 0, 0), (1, 10, 0, 0), (4, 5, 0, 0)] cA ad (fgS (sR (emS (sR (emS Z0 7) 0 3 7) 13) 0 4 13) 32)) H := hP
  have hz : H.size = base + 44 := hz
  refine W.eq (g2 := F0 m 94 ls [.ref (ad 43), .ref (ad 0)]) rfl ?_
  refine lv_dup hx hb (by decide +kernel) rfl ?_
  refine dn_init (d := 3) hx hb hml hl.1 hts hown hK hXS hAO hNL had ci_SD_init_43 ⟨(Nat.le_of_ble_eq_true rfl), (Nat.le_of_ble_eq_true rfl)⟩ (by decide) (Or.inr hNL.2.2.2.2.2) wd_320 wd_88 wd_321 (by decide +kernel) rfl hP hz hS (Nat.le_of_ble_eq_true rfl) (Nat.le_of_ble_eq_true rfl) (Nat.le_of_ble_eq_true rfl) (by decide +kernel) (fun H locs hP hz hS => ?_)
  have hP : va_P D cls (wsD [(4, 8, 9, 0), (1, 400, 1, 0), (0, 4, 0, 0), (0, 6, 0, 0), (1, 401, 0, 0), (1, 401, 0, 0), (1, 401, 0, 0), (0, 3, 0, 0), (1, 8, 0, 0), (1, 96, 0, 0), (1, 20, 0, 0), (1, 48, 0, 0), (1, 9, 0, 0), (0, 3, 0, 0), (1, 8, 0, 0), (1, 96, 0, 0), (1, 20, 0, 0), (1, 48, 0, 0), (1, 9, 0, 0), (0, 2, 0, 0), (1, 8, 0, 0), (1, 8, 0, 0), (1, 8, 0, 0), (1, 8, 0, 0), (1, 8, 0, 0), (1, 8, 0, 0), (1, 8, 0, 0), (1, 4, 0, 0), (1, 8, 0, 0), (1, 8, 0, 0), (1, 8, 0, 0), (1, 8, 0, 0), (0, 7, 0, 0), (1, 768, 0, 0), (2, 3, 0, 0), (2, 3, 0, 0), (0, 1, 0, 0), (1, 256, 0, 0), (1, 256, 0, 0), (0, 0, 0, 0), (1, 480, 0, 0), (1, 10, 0, 0), (1, 10, 0, 0), (0, 5, 0, 0), (1, 8, 0, 0), (1, 3, 0, 0), (1, 4, 0, 0)] cA ad (fgS (sR (emS (sR (emS Z0 7) 0 3 7) 13) 0 4 13) 32)) H := hP
  have hz : H.size = base + 47 := hz
  refine dn_putF (a := 0) (j := 9) (j0 := 9) (z := 43) hx hb hts hown hin hK had tco_8 rfl (by decide) (by
      have h9 : ∀ i, i < 9 → 9 ≤ i → (((fks 8)[i]?.map (fun k => decide (k.1 < 2))).getD true) = true := by decide
      intro i kd h1 h2 h3
      have h8 := h9 i h2 h1
      rw [h3] at h8
      simpa using h8) wd_346 rfl rfl (fun _ => rfl) (fun _ => rfl) rfl hP hz hS (by decide) (by decide +kernel) (fun H locs hP hz hS => ?_)
  have hP : va_P D cls (wsD [(4, 8, 10, 0), (1, 400, 1, 0), (0, 4, 0, 0), (0, 6, 0, 0), (1, 401, 0, 0), (1, 401, 0, 0), (1, 401, 0, 0), (0, 3, 0, 0), (1, 8, 0, 0), (1, 96, 0, 0), (1, 20, 0, 0), (1, 48, 0, 0), (1, 9, 0, 0), (0, 3, 0, 0), (1, 8, 0, 0), (1, 96, 0, 0), (1, 20, 0, 0), (1, 48, 0, 0), (1, 9, 0, 0), (0, 2, 0, 0), (1, 8, 0, 0), (1, 8, 0, 0), (1, 8, 0, 0), (1, 8, 0, 0), (1, 8, 0, 0), (1, 8, 0, 0), (1, 8, 0, 0), (1, 4, 0, 0), (1, 8, 0, 0), (1, 8, 0, 0), (1, 8, 0, 0), (1, 8, 0, 0), (0, 7, 0, 0), (1, 768, 0, 0), (2, 3, 0, 0), (2, 3, 0, 0), (0, 1, 0, 0), (1, 256, 0, 0), (1, 256, 0, 0), (0, 0, 0, 0), (1, 480, 0, 0), (1, 10, 0, 0), (1, 10, 0, 0), (0, 5, 0, 0), (1, 8, 0, 0), (1, 3, 0, 0), (1, 4, 0, 0)] cA ad (fgS (sR (emS (sR (emS Z0 7) 0 3 7) 13) 0 4 13) 32)) H := hP
  have hz : H.size = base + 47 := hz
  refine lv_aload_n hx hb (by decide +kernel : decode prog_1_method_1_code 101 = .ok (.aload_n 0, 1)) rfl (lv_at hl 0 rfl) ?_
  refine lv_iconst (n := 2) (v := 2) hx hb (by decide +kernel) (by decide) ?_
  refine dn_anew (N := 2) (b := 49) (z := 4) hx hb hts hown hK hAO had wd_317 hP hz hS (by decide) (by decide) (by decide) (by decide) (Nat.le_of_ble_eq_true rfl) (Nat.le_of_ble_eq_true rfl) (by decide +kernel) (fun H hP hz hS => ?_)
  have hP : va_P D cls (wsD [(4, 8, 10, 0), (1, 400, 1, 0), (0, 4, 0, 0), (0, 6, 0, 0), (1, 401, 0, 0), (1, 401, 0, 0), (1, 401, 0, 0), (0, 3, 0, 0), (1, 8, 0, 0), (1, 96, 0, 0), (1, 20, 0, 0), (1, 48, 0, 0), (1, 9, 0, 0), (0, 3, 0, 0), (1, 8, 0, 0), (1, 96, 0, 0), (1, 20, 0, 0), (1, 48, 0, 0), (1, 9, 0, 0), (0, 2, 0, 0), (1, 8, 0, 0), (1, 8, 0, 0), (1, 8, 0, 0), (1, 8, 0, 0), (1, 8, 0, 0), (1, 8, 0, 0), (1, 8, 0, 0), (1, 4, 0, 0), (1, 8, 0, 0), (1, 8, 0, 0), (1, 8, 0, 0), (1, 8, 0, 0), (0, 7, 0, 0), (1, 768, 0, 0), (2, 3, 0, 0), (2, 3, 0, 0), (0, 1, 0, 0), (1, 256, 0, 0), (1, 256, 0, 0), (0, 0, 0, 0), (1, 480, 0, 0), (1, 10, 0, 0), (1, 10, 0, 0), (0, 5, 0, 0), (1, 8, 0, 0), (1, 3, 0, 0), (1, 4, 0, 0), (5, 2, 49, 4)] cA ad (fgS (sR (emS (sR (emS Z0 7) 0 3 7) 13) 0 4 13) 32)) H := hP
  have hz : H.size = base + 48 := hz
  refine W.eq (g2 := F0 m 106 ls [.ref (ad 47), .ref (ad 0)]) rfl ?_
  refine dn_putF (a := 0) (j := 10) (j0 := 10) (z := 47) hx hb hts hown hin hK had tco_8 rfl (by decide) (by
      have h9 : ∀ i, i < 10 → 10 ≤ i → (((fks 8)[i]?.map (fun k => decide (k.1 < 2))).getD true) = true := by decide
      intro i kd h1 h2 h3
      have h8 := h9 i h2 h1
      rw [h3] at h8
      simpa using h8) wd_347 rfl rfl (fun _ => rfl) (fun _ => rfl) rfl hP hz hS (by decide) (by decide +kernel) (fun H locs hP hz hS => ?_)
  have hP : va_P D cls (wsD [(4, 8, 11, 0), (1, 400, 1, 0), (0, 4, 0, 0), (0, 6, 0, 0), (1, 401, 0, 0), (1, 401, 0, 0), (1, 401, 0, 0), (0, 3, 0, 0), (1, 8, 0, 0), (1, 96, 0, 0), (1, 20, 0, 0), (1, 48, 0, 0), (1, 9, 0, 0), (0, 3, 0, 0), (1, 8, 0, 0), (1, 96, 0, 0), (1, 20, 0, 0), (1, 48, 0, 0), (1, 9, 0, 0), (0, 2, 0, 0), (1, 8, 0, 0), (1, 8, 0, 0), (1, 8, 0, 0), (1, 8, 0, 0), (1, 8, 0, 0), (1, 8, 0, 0), (1, 8, 0, 0), (1, 4, 0, 0), (1, 8, 0, 0), (1, 8, 0, 0), (1, 8, 0, 0), (1, 8, 0, 0), (0, 7, 0, 0), (1, 768, 0, 0), (2, 3, 0, 0), (2, 3, 0, 0), (0, 1, 0, 0), (1, 256, 0, 0), (1, 256, 0, 0), (0, 0, 0, 0), (1, 480, 0, 0), (1, 10, 0, 0), (1, 10, 0, 0), (0, 5, 0, 0), (1, 8, 0, 0), (1, 3, 0, 0), (1, 4, 0, 0), (5, 2, 49, 4)] cA ad (fgS (sR (emS (sR (emS Z0 7) 0 3 7) 13) 0 4 13) 32)) H := hP
  have hz : H.size = base + 48 := hz
  refine lv_aload_n hx hb (by decide +kernel : decode prog_1_method_1_code 109 = .ok (.aload_n 0, 1)) rfl (lv_at hl 0 rfl) ?_
  refine lv_iconst (n := 2) (v := 2) hx hb (by decide +kernel) (by decide) ?_
  refine dn_arr (atype := .boolean) (ty := .boolean) (t := 2) (N := 2) (a0 := (2, .inl (fun _ => 0))) (en := (1, 2, 2, 0)) hx hb hts hK had rfl wd_377 rfl (fun _ h => h) (fun _ => rfl) rfl hP hz hS (by decide) (by decide) (by decide) (by decide) (Nat.le_of_ble_eq_true rfl) (Nat.le_of_ble_eq_true rfl) (by decide +kernel) (fun H hP hz hS => ?_)
  have hP : va_P D cls (wsD [(4, 8, 11, 0), (1, 400, 1, 0), (0, 4, 0, 0), (0, 6, 0, 0), (1, 401, 0, 0), (1, 401, 0, 0), (1, 401, 0, 0), (0, 3, 0, 0), (1, 8, 0, 0), (1, 96, 0, 0), (1, 20, 0, 0), (1, 48, 0, 0), (1, 9, 0, 0), (0, 3, 0, 0), (1, 8, 0, 0), (1, 96, 0, 0), (1, 20, 0, 0), (1, 48, 0, 0), (1, 9, 0, 0), (0, 2, 0, 0), (1, 8, 0, 0), (1, 8, 0, 0), (1, 8, 0, 0), (1, 8, 0, 0), (1, 8, 0, 0), (1, 8, 0, 0), (1, 8, 0, 0), (1, 4, 0, 0), (1, 8, 0, 0), (1, 8, 0, 0), (1, 8, 0, 0), (1, 8, 0, 0), (0, 7, 0, 0), (1, 768, 0, 0), (2, 3, 0, 0), (2, 3, 0, 0), (0, 1, 0, 0), (1, 256, 0, 0), (1, 256, 0, 0), (0, 0, 0, 0), (1, 480, 0, 0), (1, 10, 0, 0), (1, 10, 0, 0), (0, 5, 0, 0), (1, 8, 0, 0), (1, 3, 0, 0), (1, 4, 0, 0), (5, 2, 49, 4), (1, 2, 2, 0)] cA ad (fgS (sR (emS (sR (emS Z0 7) 0 3 7) 13) 0 4 13) 32)) H := hP
  have hz : H.size = base + 49 := hz
  refine W.eq (g2 := F0 m 113 ls [.ref (ad 48), .ref (ad 0)]) rfl ?_
  refine dn_putF (a := 0) (j := 11) (j0 := 11) (z := 48) hx hb hts hown hin hK had tco_8 rfl (by decide) (by
      have h9 : ∀ i, i < 11 → 11 ≤ i → (((fks 8)[i]?.map (fun k => decide (k.1 < 2))).getD true) = true := by decide
      intro i kd h1 h2 h3
      have h8 := h9 i h2 h1
      rw [h3] at h8
      simpa using h8) wd_348 rfl rfl (fun _ => rfl) (fun _ => rfl) rfl hP hz hS (by decide) (by decide +kernel) (fun H locs hP hz hS => ?_)
  have hP : va_P D cls (wsD [(4, 8, 12, 0), (1, 400, 1, 0), (0, 4, 0, 0), (0, 6, 0, 0), (1, 401, 0, 0), (1, 401, 0, 0), (1, 401, 0, 0), (0, 3, 0, 0), (1, 8, 0, 0), (1, 96, 0, 0), (1, 20, 0, 0), (1, 48, 0, 0), (1, 9, 0, 0), (0, 3, 0, 0), (1, 8, 0, 0), (1, 96, 0, 0), (1, 20, 0, 0), (1, 48, 0, 0), (1, 9, 0, 0), (0, 2, 0, 0), (1, 8, 0, 0), (1, 8, 0, 0), (1, 8, 0, 0), (1, 8, 0, 0), (1, 8, 0, 0), (1, 8, 0, 0), (1, 8, 0, 0), (1, 4, 0, 0), (1, 8, 0, 0), (1, 8, 0, 0), (1, 8, 0, 0), (1, 8, 0, 0), (0, 7, 0, 0), (1, 768, 0, 0), (2, 3, 0, 0), (2, 3, 0, 0), (0, 1, 0, 0), (1, 256, 0, 0), (1, 256, 0, 0), (0, 0, 0, 0), (1, 480, 0, 0), (1, 10, 0, 0), (1, 10, 0, 0), (0, 5, 0, 0), (1, 8, 0, 0), (1, 3, 0, 0), (1, 4, 0, 0), (5, 2, 49, 4), (1, 2, 2, 0)] cA ad (fgS (sR (emS (sR (emS Z0 7) 0 3 7) 13) 0 4 13) 32)) H := hP
  have hz : H.size = base + 49 := hz
  have hP := dn_done hP (a := 0) (ci := 8) (j := 12) rfl (by
      have h9 : ∀ i, i < 13 → 12 ≤ i → (((fks 8)[i]?.map (fun k => decide (k.1 < 2))).getD true) = true := by decide
      intro i kd h1 h3
      have h8 := h9 i (List.getElem?_eq_some_iff.mp h3).1 h1
      rw [h3] at h8
      simpa using h8)
  have hP : va_P D cls (wsD [(0, 8, 0, 0), (1, 400, 1, 0), (0, 4, 0, 0), (0, 6, 0, 0), (1, 401, 0, 0), (1, 401, 0, 0), (1, 401, 0, 0), (0, 3, 0, 0), (1, 8, 0, 0), (1, 96, 0, 0), (1, 20, 0, 0), (1, 48, 0, 0), (1, 9, 0, 0), (0, 3, 0, 0), (1, 8, 0, 0), (1, 96, 0, 0), (1, 20, 0, 0), (1, 48, 0, 0), (1, 9, 0, 0), (0, 2, 0, 0), (1, 8, 0, 0), (1, 8, 0, 0), (1, 8, 0, 0), (1, 8, 0, 0), (1, 8, 0, 0), (1, 8, 0, 0), (1, 8, 0, 0), (1, 4, 0, 0), (1, 8, 0, 0), (1, 8, 0, 0), (1, 8, 0, 0), (1, 8, 0, 0), (0, 7, 0, 0), (1, 768, 0, 0), (2, 3, 0, 0), (2, 3, 0, 0), (0, 1, 0, 0), (1, 256, 0, 0), (1, 256, 0, 0), (0, 0, 0, 0), (1, 480, 0, 0), (1, 10, 0, 0), (1, 10, 0, 0), (0, 5, 0, 0), (1, 8, 0, 0), (1, 3, 0, 0), (1, 4, 0, 0), (5, 2, 49, 4), (1, 2, 2, 0)] cA ad (fgS (sR (emS (sR (emS Z0 7) 0 3 7) 13) 0 4 13) 32)) H := hP
  have hz : H.size = base + 49 := hz
  refine lv_iconst (n := 0) (v := 0) hx hb (by decide +kernel) (by decide) ?_
  refine lv_istore_n (k := 1) (lv' := [(1, .int 0), (0, .ref (ad 0))]) hx hb (by decide +kernel) rfl hl (by decide) rfl (fun ls hl => ?_)
  refine lv_iload_n hx hb (by decide +kernel : decode prog_1_method_1_code 118 = .ok (.iload_n 1, 1)) rfl (lv_at hl 0 rfl) ?_
  refine lv_iconst (n := 2) (v := 2) hx hb (by decide +kernel) (by decide) ?_
  refine lv_icmp_ge (off := 22) (tgt := 142) hx hb (by decide +kernel) (by decide) (fun h9 => absurd h9 (by decide)) (fun _ => ?_)
  refine lv_aload_n hx hb (by decide +kernel : decode prog_1_method_1_code 123 = .ok (.aload_n 0, 1)) rfl (lv_at hl 1 rfl) ?_
  refine dn_get (a := 0) (j := 10) (z := 47) hx hb hts hown hK tco_8 rfl wd_347 rfl hP (by decide +kernel) ?_
  refine lv_iload_n hx hb (by decide +kernel : decode prog_1_method_1_code 127 = .ok (.iload_n 1, 1)) rfl (lv_at hl 0 rfl) ?_
  refine dn_new hx hb hts hown hK had tco_5 (by decide) wd_317 wd_318 wd_88 hP hz hS (by decide) rfl rfl (Nat.le_of_ble_eq_true rfl) (Nat.le_of_ble_eq_true rfl) (by decide +kernel) (fun H hP hz hS => ?_)
  have hP : va_P D cls (wsD [(0, 8, 0, 0), (1, 400, 1, 0), (0, 4, 0, 0), (0, 6, 0, 0), (1, 401, 0, 0), (1, 401, 0, 0), (1, 401, 0, 0), (0, 3, 0, 0), (1, 8, 0, 0), (1, 96, 0, 0), (1, 20, 0, 0), (1, 48, 0, 0), (1, 9, 0, 0), (0, 3, 0, 0), (1, 8, 0, 0), (1, 96, 0, 0), (1, 20, 0, 0), (1, 48, 0, 0), (1, 9, 0, 0), (0, 2, 0, 0), (1, 8, 0, 0), (1, 8, 0, 0), (1, 8, 0, 0), (1, 8, 0, 0), (1, 8, 0, 0), (1, 8, 0, 0), (1, 8, 0, 0), (1, 4, 0, 0), (1, 8, 0, 0), (1, 8, 0, 0), (1, 8, 0, 0), (1, 8, 0, 0), (0, 7, 0, 0), (1, 768, 0, 0), (2, 3, 0, 0), (2, 3, 0, 0), (0, 1, 0, 0), (1, 256, 0, 0), (1, 256, 0, 0), (0, 0, 0, 0), (1, 480, 0, 0), (1, 10, 0, 0), (1, 10, 0, 0), (0, 5, 0, 0), (1, 8, 0, 0), (1, 3, 0, 0), (1, 4, 0, 0), (5, 2, 49, 4), (1, 2, 2, 0), (4, 5, 0, 0)] cA ad (fgS (sR (emS (sR (emS Z0 7) 0 3 7) 13) 0 4 13) 32)) H := hP
  have hz : H.size = base + 50 := hz
  refine W.eq (g2 := F0 m 131 ls [.ref (ad 49), .int 0, .ref (ad 47)]) rfl ?_
  refine lv_dup hx hb (by decide +kernel) rfl ?_
  refine dn_init (d := 3) hx hb hml hl.1 hts hown hK hXS hAO hNL had ci_SD_init_49 ⟨(Nat.le_of_ble_eq_true rfl), (Nat.le_of_ble_eq_true rfl)⟩ (by decide) (Or.inr hNL.2.2.2.2.2) wd_320 wd_88 wd_321 (by decide +kernel) rfl hP hz hS (Nat.le_of_ble_eq_true rfl) (Nat.le_of_ble_eq_true rfl) (Nat.le_of_ble_eq_true rfl) (by decide +kernel) (fun H locs hP hz hS => ?_)
  have hP : va_P D cls (wsD [(0, 8, 0, 0), (1, 400, 1, 0), (0, 4, 0, 0), (0, 6, 0, 0), (1, 401, 0, 0), (1, 401, 0, 0), (1, 401, 0, 0), (0, 3, 0, 0), (1, 8, 0, 0), (1, 96, 0, 0), (1, 20, 0, 0), (1, 48, 0, 0), (1, 9, 0, 0), (0, 3, 0, 0), (1, 8, 0, 0), (1, 96, 0, 0), (1, 20, 0, 0), (1, 48, 0, 0), (1, 9, 0, 0), (0, 2, 0, 0), (1, 8, 0, 0), (1, 8, 0, 0), (1, 8, 0, 0), (1, 8, 0, 0), (1, 8, 0, 0), (1, 8, 0, 0), (1, 8, 0, 0), (1, 4, 0, 0), (1, 8, 0, 0), (1, 8, 0, 0), (1, 8, 0, 0), (1, 8, 0, 0), (0, 7, 0, 0), (1, 768, 0, 0), (2, 3, 0, 0), (2, 3, 0, 0), (0, 1, 0, 0), (1, 256, 0, 0), (1, 256, 0, 0), (0, 0, 0, 0), (1, 480, 0, 0), (1, 10, 0, 0), (1, 10, 0, 0), (0, 5, 0, 0), (1, 8, 0, 0), (1, 3, 0, 0), (1, 4, 0, 0), (5, 2, 49, 4), (1, 2, 2, 0), (0, 5, 0, 0), (1, 8, 0, 0), (1, 3, 0, 0), (1, 4, 0, 0)] cA ad (fgS (sR (emS (sR (emS Z0 7) 0 3 7) 13) 0 4 13) 32)) H := hP
  have hz : H.size = base + 53 := hz
  refine dn_aast (a := 47) (k := 0) (v := 49) hx hb hK had rfl (by decide) (by unfold vp_in; decide) rfl rfl hP hz hS (by decide) (by decide +kernel) (fun H locs hP hz hS => ?_)
  have hP : va_P D cls (wsD [(0, 8, 0, 0), (1, 400, 1, 0), (0, 4, 0, 0), (0, 6, 0, 0), (1, 401, 0, 0), (1, 401, 0, 0), (1, 401, 0, 0), (0, 3, 0, 0), (1, 8, 0, 0), (1, 96, 0, 0), (1, 20, 0, 0), (1, 48, 0, 0), (1, 9, 0, 0), (0, 3, 0, 0), (1, 8, 0, 0), (1, 96, 0, 0), (1, 20, 0, 0), (1, 48, 0, 0), (1, 9, 0, 0), (0, 2, 0, 0), (1, 8, 0, 0), (1, 8, 0, 0), (1, 8, 0, 0), (1, 8, 0, 0), (1, 8, 0, 0), (1, 8, 0, 0), (1, 8, 0, 0), (1, 4, 0, 0), (1, 8, 0, 0), (1, 8, 0, 0), (1, 8, 0, 0), (1, 8, 0, 0), (0, 7, 0, 0), (1, 768, 0, 0), (2, 3, 0, 0), (2, 3, 0, 0), (0, 1, 0, 0), (1, 256, 0, 0), (1, 256, 0, 0), (0, 0, 0, 0), (1, 480, 0, 0), (1, 10, 0, 0), (1, 10, 0, 0), (0, 5, 0, 0), (1, 8, 0, 0), (1, 3, 0, 0), (1, 4, 0, 0), (6, 2, 49, 4), (1, 2, 2, 0), (0, 5, 0, 0), (1, 8, 0, 0), (1, 3, 0, 0), (1, 4, 0, 0)] cA ad (fgS (sR (emS (sR (emS Z0 7) 0 3 7) 13) 0 4 13) 32)) H := hP
  have hz : H.size = base + 53 := hz
  refine lv_iinc (n := 1) (v := 1) (lv' := [(1, .int 1), (0, .ref (ad 0))]) hx hb (by decide +kernel) hl (k := 0) rfl (by decide) (by decide) rfl (fun ls hl => ?_)
  refine lv_goto (off := (-21)) (tgt := 118) hx hb (by decide +kernel) (by decide) ?_
  refine lv_iload_n hx hb (by decide +kernel : decode prog_1_method_1_code 118 = .ok (.iload_n 1, 1)) rfl (lv_at hl 0 rfl) ?_
  refine lv_iconst (n := 2) (v := 2) hx hb (by decide +kernel) (by decide) ?_
  refine lv_icmp_ge (off := 22) (tgt := 142) hx hb (by decide +kernel) (by decide) (fun h9 => absurd h9 (by decide)) (fun _ => ?_)
  refine lv_aload_n hx hb (by decide +kernel : decode prog_1_method_1_code 123 = .ok (.aload_n 0, 1)) rfl (lv_at hl 1 rfl) ?_
  refine dn_get (a := 0) (j := 10) (z := 47) hx hb hts hown hK tco_8 rfl wd_347 rfl hP (by decide +kernel) ?_
  refine lv_iload_n hx hb (by decide +kernel : decode prog_1_method_1_code 127 = .ok (.iload_n 1, 1)) rfl (lv_at hl 0 rfl) ?_
  refine dn_new hx hb hts hown hK had tco_5 (by decide) wd_317 wd_318 wd_88 hP hz hS (by decide) rfl rfl (Nat.le_of_ble_eq_true rfl) (Nat.le_of_ble_eq_true rfl) (by decide +kernel) (fun H hP hz hS => ?_)
  have hP : va_P D cls (wsD [(0, 8, 0, 0), (1, 400, 1, 0), (0, 4, 0, 0), (0, 6, 0, 0), (1, 401, 0, 0), (1, 401, 0, 0), (1, 401, 0, 0), (0, 3, 0, 0), (1, 8, 0, 0), (1, 96, 0, 0), (1, 20, 0, 0), (1, 48, 0, 0), (1, 9, 0, 0), (0, 3, 0, 0), (1, 8, 0, 0), (1, 96, 0, 0), (1, 20, 0, 0), (1, 48, 0, 0), (1, 9, 0, 0), (0, 2, 0, 0), (1, 8, 0, 0), (1, 8, 0, 0), (1, 8, 0, 0), (1, 8, 0, 0), (1, 8, 0, 0), (1, 8, 0, 0), (1, 8, 0, 0), (1, 4, 0, 0), (1, 8, 0, 0), (1, 8, 0, 0), (1, 8, 0, 0), (1, 8, 0, 0), (0, 7, 0, 0), (1, 768, 0, 0), (2, 3, 0, 0), (2, 3, 0, 0), (0, 1, 0, 0), (1, 256, 0, 0), (1, 256, 0, 0), (0, 0, 0, 0), (1, 480, 0, 0), (1, 10, 0, 0), (1, 10, 0, 0), (0, 5, 0, 0), (1, 8, 0, 0), (1, 3, 0, 0), (1, 4, 0, 0), (6, 2, 49, 4), (1, 2, 2, 0), (0, 5, 0, 0), (1, 8, 0, 0), (1, 3, 0, 0), (1, 4, 0, 0), (4, 5, 0, 0)] cA ad (fgS (sR (emS (sR (emS Z0 7) 0 3 7) 13) 0 4 13) 32)) H := hP
  have hz : H.size = base + 54 := hz
  refine W.eq (g2 := F0 m 131 ls [.ref (ad 53), .int 1, .ref (ad 47)]) rfl ?_
  refine lv_dup hx hb (by decide +kernel) rfl ?_
  refine dn_init (d := 3) hx hb hml hl.1 hts hown hK hXS hAO hNL had ci_SD_init_53 ⟨(Nat.le_of_ble_eq_true rfl), (Nat.le_of_ble_eq_true rfl)⟩ (by decide) (Or.inr hNL.2.2.2.2.2) wd_320 wd_88 wd_321 (by decide +kernel) rfl hP hz hS (Nat.le_of_ble_eq_true rfl) (Nat.le_of_ble_eq_true rfl) (Nat.le_of_ble_eq_true rfl) (by decide +kernel) (fun H locs hP hz hS => ?_)
  have hP : va_P D cls (wsD [(0, 8, 0, 0), (1, 400, 1, 0), (0, 4, 0, 0), (0, 6, 0, 0), (1, 401, 0, 0), (1, 401, 0, 0), (1, 401, 0, 0), (0, 3, 0, 0), (1, 8, 0, 0), (1, 96, 0, 0), (1, 20, 0, 0), (1, 48, 0, 0), (1, 9, 0, 0), (0, 3, 0, 0), (1, 8, 0, 0), (1, 96, 0, 0), (1, 20, 0, 0), (1, 48, 0, 0), (1, 9, 0, 0), (0, 2, 0, 0), (1, 8, 0, 0), (1, 8, 0, 0), (1, 8, 0, 0), (1, 8, 0, 0), (1, 8, 0, 0), (1, 8, 0, 0), (1, 8, 0, 0), (1, 4, 0, 0), (1, 8, 0, 0), (1, 8, 0, 0), (1, 8, 0, 0), (1, 8, 0, 0), (0, 7, 0, 0), (1, 768, 0, 0), (2, 3, 0, 0), (2, 3, 0, 0), (0, 1, 0, 0), (1, 256, 0, 0), (1, 256, 0, 0), (0, 0, 0, 0), (1, 480, 0, 0), (1, 10, 0, 0), (1, 10, 0, 0), (0, 5, 0, 0), (1, 8, 0, 0), (1, 3, 0, 0), (1, 4, 0, 0), (6, 2, 49, 4), (1, 2, 2, 0), (0, 5, 0, 0), (1, 8, 0, 0), (1, 3, 0, 0), (1, 4, 0, 0), (0, 5, 0, 0), (1, 8, 0, 0), (1, 3, 0, 0), (1, 4, 0, 0)] cA ad (fgS (sR (emS (sR (emS Z0 7) 0 3 7) 13) 0 4 13) 32)) H := hP
  have hz : H.size = base + 57 := hz
  refine dn_aast (a := 47) (k := 1) (v := 53) hx hb hK had rfl (by decide) (by unfold vp_in; decide) rfl rfl hP hz hS (by decide) (by decide +kernel) (fun H locs hP hz hS => ?_)
  have hP : va_P D cls (wsD [(0, 8, 0, 0), (1, 400, 1, 0), (0, 4, 0, 0), (0, 6, 0, 0), (1, 401, 0, 0), (1, 401, 0, 0), (1, 401, 0, 0), (0, 3, 0, 0), (1, 8, 0, 0), (1, 96, 0, 0), (1, 20, 0, 0), (1, 48, 0, 0), (1, 9, 0, 0), (0, 3, 0, 0), (1, 8, 0, 0), (1, 96, 0, 0), (1, 20, 0, 0), (1, 48, 0, 0), (1, 9, 0, 0), (0, 2, 0, 0), (1, 8, 0, 0), (1, 8, 0, 0), (1, 8, 0, 0), (1, 8, 0, 0), (1, 8, 0, 0), (1, 8, 0, 0), (1, 8, 0, 0), (1, 4, 0, 0), (1, 8, 0, 0), (1, 8, 0, 0), (1, 8, 0, 0), (1, 8, 0, 0), (0, 7, 0, 0), (1, 768, 0, 0), (2, 3, 0, 0), (2, 3, 0, 0), (0, 1, 0, 0), (1, 256, 0, 0), (1, 256, 0, 0), (0, 0, 0, 0), (1, 480, 0, 0), (1, 10, 0, 0), (1, 10, 0, 0), (0, 5, 0, 0), (1, 8, 0, 0), (1, 3, 0, 0), (1, 4, 0, 0), (7, 2, 49, 4), (1, 2, 2, 0), (0, 5, 0, 0), (1, 8, 0, 0), (1, 3, 0, 0), (1, 4, 0, 0), (0, 5, 0, 0), (1, 8, 0, 0), (1, 3, 0, 0), (1, 4, 0, 0)] cA ad (fgS (sR (emS (sR (emS Z0 7) 0 3 7) 13) 0 4 13) 32)) H := hP
  have hz : H.size = base + 57 := hz
  have hP := dn_img hP (a := 47) (n := 2) (b := 49) (z := 4) rfl
  have hP : va_P D cls (wsD [(0, 8, 0, 0), (1, 400, 1, 0), (0, 4, 0, 0), (0, 6, 0, 0), (1, 401, 0, 0), (1, 401, 0, 0), (1, 401, 0, 0), (0, 3, 0, 0), (1, 8, 0, 0), (1, 96, 0, 0), (1, 20, 0, 0), (1, 48, 0, 0), (1, 9, 0, 0), (0, 3, 0, 0), (1, 8, 0, 0), (1, 96, 0, 0), (1, 20, 0, 0), (1, 48, 0, 0), (1, 9, 0, 0), (0, 2, 0, 0), (1, 8, 0, 0), (1, 8, 0, 0), (1, 8, 0, 0), (1, 8, 0, 0), (1, 8, 0, 0), (1, 8, 0, 0), (1, 8, 0, 0), (1, 4, 0, 0), (1, 8, 0, 0), (1, 8, 0, 0), (1, 8, 0, 0), (1, 8, 0, 0), (0, 7, 0, 0), (1, 768, 0, 0), (2, 3, 0, 0), (2, 3, 0, 0), (0, 1, 0, 0), (1, 256, 0, 0), (1, 256, 0, 0), (0, 0, 0, 0), (1, 480, 0, 0), (1, 10, 0, 0), (1, 10, 0, 0), (0, 5, 0, 0), (1, 8, 0, 0), (1, 3, 0, 0), (1, 4, 0, 0), (3, 2, 49, 4), (1, 2, 2, 0), (0, 5, 0, 0), (1, 8, 0, 0), (1, 3, 0, 0), (1, 4, 0, 0), (0, 5, 0, 0), (1, 8, 0, 0), (1, 3, 0, 0), (1, 4, 0, 0)] cA ad (fgS (sR (emS (sR (emS Z0 7) 0 3 7) 13) 0 4 13) 32)) H := hP
  have hz : H.size = base + 57 := hz
  refine lv_iinc (n := 1) (v := 2) (lv' := [(1, .int 2), (0, .ref (ad 0))]) hx hb (by decide +kernel) hl (k := 0) rfl (by decide) (by decide) rfl (fun ls hl => ?_)
  refine lv_goto (off := (-21)) (tgt := 118) hx hb (by decide +kernel) (by decide) ?_
  refine lv_iload_n hx hb (by decide +kernel : decode prog_1_method_1_code 118 = .ok (.iload_n 1, 1)) rfl (lv_at hl 0 rfl) ?_
  refine lv_iconst (n := 2) (v := 2) hx hb (by decide +kernel) (by decide) ?_
  refine lv_icmp_ge (off := 22) (tgt := 142) hx hb (by decide +kernel) (by decide) (fun _ => ?_) (fun h9 => absurd (by decide) h9)
  exact W.vret hx hb hr (fun t ht hW => ⟨⟨(), rfl, trivial, by rw [ht]; exact hz, by rw [ht]; exact hP, va_K.moved hW.alike hK, hXS.next ht hW hS, va_AO.moved hW.alike hAO, hNL.warm hW⟩, hS.F ht⟩) hS.2.2 (by decide +kernel) hlocks
