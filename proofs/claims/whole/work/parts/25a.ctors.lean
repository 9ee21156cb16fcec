def Z0 : Sto := (fun _ _ => 0, fun _ _ => 0, fun _ _ => 0)
def fgS (S : Sto) (a : Nat) : Sto := sIr S (a + 1) (fun i => if i < 768 then -1 else S.1 (a + 1) i)
def mdS (S : Sto) (a : Nat) : Sto := sIr (sI S (a + 2) 0 1) (a + 12) (fun i => if i < 9 then (if i % 3 = 1 then 10 else 0) else S.1 (a + 12) i)
theorem sz_eq {a s b n0 mc k : Nat} (h1 : a ≤ s + mc) (h0 : s = b + n0) (h2 : b + k < a) (e1 : n0 + mc = k + 1) : a = b + (k + 1) := by omega
theorem W_size {p : Program} {l : Launch} {e : Env} {R : Room} {s : State} {m : MethodId} {args : Array Value} {below : List Frame} {meth : Method} {c : Code} {H : Heap} {locs : List Loc} {cells slots : Nat} {Q : State → Prop} {g : JFrame} (k : H.size ≤ s.heap.size + cells → W p l e R s m args below meth c H locs cells slots Q g) : W p l e R s m args below meth c H locs cells slots Q g :=
  fun T hT X => k (by rw [← hT]; exact X.heapSize) T hT X
theorem wd_102 : Cond.methodLink "TurnedRivers" 3 objectInit ∈ gw := gm_1 24 rfl rfl
theorem wd_103 : Cond.instanceMethod objectInit ∈ gw := gm_1 25 rfl rfl
theorem wd_104 : Cond.code objectInit ⟨#[0xb1]⟩ 1 none ∈ gw := gm_1 26 rfl rfl
theorem wd_105 : Cond.classLink "TurnedRivers" 13 "TurnedRivers$Reader" ∈ gw := gm_1 27 rfl rfl
theorem wd_106 : Cond.instantiable "TurnedRivers$Reader" 2 ∈ gw := gm_1 28 rfl rfl
theorem wd_108 : Cond.instanceMethod ⟨"TurnedRivers$Reader", "<init>", "()V"⟩ ∈ gw := gm_1 30 rfl rfl
theorem wd_109 : Cond.code ⟨"TurnedRivers$Reader", "<init>", "()V"⟩ prog_6_method_1_code 1 none ∈ gw := gm_1 31 rfl rfl
theorem wd_110 : Cond.methodLink "TurnedRivers$Reader" 3 objectInit ∈ gw := gm_1 32 rfl rfl
theorem wd_111 : Cond.classLink "TurnedRivers$Reader" 9 "TurnedRivers$Tokens" ∈ gw := gm_1 33 rfl rfl
theorem wd_112 : Cond.instantiable "TurnedRivers$Tokens" 4 ∈ gw := gm_1 34 rfl rfl
theorem wd_114 : Cond.instanceMethod ⟨"TurnedRivers$Tokens", "<init>", "()V"⟩ ∈ gw := gm_1 36 rfl rfl
theorem wd_115 : Cond.code ⟨"TurnedRivers$Tokens", "<init>", "()V"⟩ prog_8_method_1_code 1 none ∈ gw := gm_1 37 rfl rfl
theorem wd_116 : Cond.methodLink "TurnedRivers$Tokens" 3 objectInit ∈ gw := gm_1 38 rfl rfl
theorem wd_133 : Cond.arrayClass .byte ∈ gw := gm_1 55 rfl rfl
theorem wd_134 : Cond.arrayClass .int ∈ gw := gm_1 56 rfl rfl
theorem wd_142 : Cond.classLink "TurnedRivers" 20 "TurnedRivers$Land" ∈ gw := gm_1 64 rfl rfl
theorem wd_143 : Cond.instantiable "TurnedRivers$Land" 10 ∈ gw := gm_1 65 rfl rfl
theorem wd_144 : Cond.methodLink "TurnedRivers" 22 ⟨"TurnedRivers$Land", "<init>", "()V"⟩ ∈ gw := gm_1 66 rfl rfl
theorem wd_145 : Cond.instanceMethod ⟨"TurnedRivers$Land", "<init>", "()V"⟩ ∈ gw := gm_1 67 rfl rfl
theorem wd_146 : Cond.code ⟨"TurnedRivers$Land", "<init>", "()V"⟩ prog_5_method_1_code 1 none ∈ gw := gm_1 68 rfl rfl
theorem wd_147 : Cond.methodLink "TurnedRivers$Land" 3 objectInit ∈ gw := gm_1 69 rfl rfl
theorem wd_148 : Cond.methodLink "TurnedRivers$Land" 27 ⟨"TurnedRivers$Land", "empty", "()V"⟩ ∈ gw := gm_1 70 rfl rfl
theorem wd_207 : Cond.classLink "TurnedRivers" 30 "TurnedRivers$Flow" ∈ gw := gm_1 129 rfl rfl
theorem wd_208 : Cond.instantiable "TurnedRivers$Flow" 15 ∈ gw := gm_1 130 rfl rfl
theorem wd_210 : Cond.instanceMethod ⟨"TurnedRivers$Flow", "<init>", "()V"⟩ ∈ gw := gm_1 132 rfl rfl
theorem wd_211 : Cond.code ⟨"TurnedRivers$Flow", "<init>", "()V"⟩ prog_4_method_1_code 1 none ∈ gw := gm_1 133 rfl rfl
theorem wd_212 : Cond.methodLink "TurnedRivers$Flow" 3 objectInit ∈ gw := gm_1 134 rfl rfl
set_option maxRecDepth 4000 in
theorem wd_261 : Cond.classLink "TurnedRivers" 37 "TurnedRivers$Years" ∈ gw := gm_1 183 rfl rfl
set_option maxRecDepth 4000 in
theorem wd_262 : Cond.instantiable "TurnedRivers$Years" 3 ∈ gw := gm_1 184 rfl rfl
set_option maxRecDepth 4000 in
theorem wd_263 : Cond.methodLink "TurnedRivers" 39 ⟨"TurnedRivers$Years", "<init>", "()V"⟩ ∈ gw := gm_1 185 rfl rfl
set_option maxRecDepth 4000 in
theorem wd_264 : Cond.instanceMethod ⟨"TurnedRivers$Years", "<init>", "()V"⟩ ∈ gw := gm_1 186 rfl rfl
set_option maxRecDepth 4000 in
theorem wd_265 : Cond.code ⟨"TurnedRivers$Years", "<init>", "()V"⟩ prog_9_method_1_code 1 none ∈ gw := gm_1 187 rfl rfl
set_option maxRecDepth 4000 in
theorem wd_266 : Cond.methodLink "TurnedRivers$Years" 3 objectInit ∈ gw := gm_1 188 rfl rfl
set_option maxRecDepth 4000 in
theorem wd_267 : Cond.methodLink "TurnedRivers$Years" 22 ⟨"TurnedRivers$Years", "forget", "()V"⟩ ∈ gw := gm_1 189 rfl rfl
set_option maxRecDepth 4000 in
theorem wd_282 : Cond.arrayClass .long ∈ gw := gm_1 204 rfl rfl
set_option maxRecDepth 4000 in
theorem wd_283 : Cond.classLink "TurnedRivers" 44 "TurnedRivers$Digging" ∈ gw := gm_1 205 rfl rfl
set_option maxRecDepth 4000 in
theorem wd_284 : Cond.instantiable "TurnedRivers$Digging" 2 ∈ gw := gm_1 206 rfl rfl
set_option maxRecDepth 4000 in
theorem wd_286 : Cond.instanceMethod ⟨"TurnedRivers$Digging", "<init>", "()V"⟩ ∈ gw := gm_1 208 rfl rfl
set_option maxRecDepth 4000 in
theorem wd_287 : Cond.code ⟨"TurnedRivers$Digging", "<init>", "()V"⟩ prog_3_method_1_code 1 none ∈ gw := gm_1 209 rfl rfl
set_option maxRecDepth 4000 in
theorem wd_288 : Cond.methodLink "TurnedRivers$Digging" 3 objectInit ∈ gw := gm_1 210 rfl rfl
set_option maxRecDepth 4000 in
theorem wd_297 : Cond.classLink "TurnedRivers" 51 "TurnedRivers$DamPlan" ∈ gw := gm_1 219 rfl rfl
set_option maxRecDepth 4000 in
theorem wd_298 : Cond.instantiable "TurnedRivers$DamPlan" 4 ∈ gw := gm_1 220 rfl rfl
set_option maxRecDepth 4000 in
theorem wd_300 : Cond.instanceMethod ⟨"TurnedRivers$DamPlan", "<init>", "()V"⟩ ∈ gw := gm_1 222 rfl rfl
set_option maxRecDepth 4000 in
theorem wd_301 : Cond.code ⟨"TurnedRivers$DamPlan", "<init>", "()V"⟩ prog_2_method_1_code 1 none ∈ gw := gm_1 223 rfl rfl
set_option maxRecDepth 4000 in
theorem wd_302 : Cond.methodLink "TurnedRivers$DamPlan" 3 objectInit ∈ gw := gm_1 224 rfl rfl
set_option maxRecDepth 4000 in
theorem wd_317 : Cond.classLink "TurnedRivers" 58 "TurnedRivers$Standing" ∈ gw := gm_1 239 rfl rfl
theorem wd_318 : Cond.instantiable "TurnedRivers$Standing" 3 ∈ gw := gm_2 0 rfl rfl
theorem wd_320 : Cond.instanceMethod ⟨"TurnedRivers$Standing", "<init>", "()V"⟩ ∈ gw := gm_2 2 rfl rfl
theorem wd_321 : Cond.code ⟨"TurnedRivers$Standing", "<init>", "()V"⟩ prog_7_method_1_code 1 none ∈ gw := gm_2 3 rfl rfl
theorem wd_322 : Cond.methodLink "TurnedRivers$Standing" 3 objectInit ∈ gw := gm_2 4 rfl rfl
theorem wd_377 : Cond.arrayClass .boolean ∈ gw := gm_2 59 rfl rfl
theorem wd_916 : Cond.methodLink "TurnedRiversModel" 1 objectInit ∈ gw := gm_4 118 rfl rfl
set_option maxRecDepth 4000 in
theorem ci_TK_init_3 : ConI ⟨"TurnedRivers$Tokens", "<init>", "()V"⟩ prog_8_method_1_code 1 1 3 1203 3 [(4, 8, 1, 0), (1, 400, 1, 0), (4, 4, 0, 0), (4, 6, 0, 0)] Z0 [(4, 8, 1, 0), (1, 400, 1, 0), (4, 4, 0, 0), (0, 6, 0, 0), (1, 401, 0, 0), (1, 401, 0, 0), (1, 401, 0, 0)] Z0 := by
  intro l D cA ad base had
  refine Met.ofW (cc := prog_8_method_1_code) (maxL := 1) (ret := none) (by decide) rfl ?_
  intro p e s m args below meth c s₁ B hml hv
  obtain ⟨rfl, hz0, hP, hK, hXS, hAO, hNL⟩ := hv
  have hx := B.exec
  have hb := B.bytes
  have hr := B.returns
  have hts0 := atoms_spec (ws := wsM ⟨"TurnedRivers$Tokens", "<init>", "()V"⟩ prog_8_method_1_code 1 none) B.pre
  have hts : ∀ w ∈ gw, w.before _ s = true := fun w hw => hts0 w (List.mem_cons_of_mem _ hw)
  have hown : s.vm.findClass "TurnedRivers$Tokens" = some m.cls := findClass_of_methodNamed B.named
  have hlocks := B.notSynchronized
  have hin : meth.name = "<init>" := (name_of_methodNamed B.named B.method).1
  have hS : va_S (fun q => base ≤ q) s.heap s.heap [] := va_S.rf
  have hl := lv_entry ([.ref (ad 3)]) (n := 1) (Nat.le_of_ble_eq_true rfl)
  rw [lg_entry_eq]
  generalize (lg_sl ([.ref (ad 3)]) ++ List.replicate (1 - (lg_sl ([.ref (ad 3)])).length) Slot.unset).toArray = ls at hl ⊢
  have hl : lv_has ls 1 [(0, .ref (ad 3))] := hl
  have hz00 : s.heap.size = base + 4 := hz0
  have hz := hz00
  refine lv_aload_n hx hb (by decide +kernel : decode prog_8_method_1_code 0 = .ok (.aload_n 0, 1)) rfl (lv_at hl 0 rfl) ?_
  refine W.objInit hx hb hown (hts _ wd_116) (hts _ wd_103) (hts _ wd_104) rfl (by rw [hml]; exact hl.1) rfl (by decide +kernel : decode prog_8_method_1_code 1 = .ok (.invokespecial 3, 3)) (Nat.le_of_ble_eq_true rfl) (Nat.le_of_ble_eq_true rfl) ?_
  refine W.eq (g2 := F0 m 4 ls []) rfl ?_
  refine lv_aload_n hx hb (by decide +kernel : decode prog_8_method_1_code 4 = .ok (.aload_n 0, 1)) rfl (lv_at hl 0 rfl) ?_
  refine lv_sipush (n := 401) (v := 401) hx hb (by decide +kernel) (by decide) ?_
  refine dn_arr (atype := .int) (ty := .int) (t := 0) (N := 401) (a0 := (401, .inl (fun _ => 0))) (en := (1, 401, 0, 0)) hx hb hts hK had rfl wd_134 rfl (fun _ h => h) (fun _ => rfl) rfl hP hz hS (by decide) (by decide) (by decide) (by decide) (Nat.le_of_ble_eq_true rfl) (Nat.le_of_ble_eq_true rfl) (by decide +kernel) (fun H hP hz hS => ?_)
  have hP : va_P D cls (wsD [(4, 8, 1, 0), (1, 400, 1, 0), (4, 4, 0, 0), (4, 6, 0, 0), (1, 401, 0, 0)] cA ad Z0) H := hP
  have hz : H.size = base + 5 := hz
  refine W.eq (g2 := F0 m 10 ls [.ref (ad 4), .ref (ad 3)]) rfl ?_
  refine dn_putF (a := 3) (j := 0) (j0 := 0) (z := 1) hx hb hts hown hin hK had tco_6 rfl (by decide) (by
      have h9 : ∀ i, i < 0 → 0 ≤ i → (((fks 6)[i]?.map (fun k => decide (k.1 < 2))).getD true) = true := by decide
      intro i kd h1 h2 h3
      have h8 := h9 i h2 h1
      rw [h3] at h8
      simpa using h8) wd_117 rfl rfl (fun _ => rfl) (fun _ => rfl) rfl hP hz hS (by decide) (by decide +kernel) (fun H locs hP hz hS => ?_)
  have hP : va_P D cls (wsD [(4, 8, 1, 0), (1, 400, 1, 0), (4, 4, 0, 0), (4, 6, 1, 0), (1, 401, 0, 0)] cA ad Z0) H := hP
  have hz : H.size = base + 5 := hz
  refine lv_aload_n hx hb (by decide +kernel : decode prog_8_method_1_code 13 = .ok (.aload_n 0, 1)) rfl (lv_at hl 0 rfl) ?_
  refine lv_sipush (n := 401) (v := 401) hx hb (by decide +kernel) (by decide) ?_
  refine dn_arr (atype := .int) (ty := .int) (t := 0) (N := 401) (a0 := (401, .inl (fun _ => 0))) (en := (1, 401, 0, 0)) hx hb hts hK had rfl wd_134 rfl (fun _ h => h) (fun _ => rfl) rfl hP hz hS (by decide) (by decide) (by decide) (by decide) (Nat.le_of_ble_eq_true rfl) (Nat.le_of_ble_eq_true rfl) (by decide +kernel) (fun H hP hz hS => ?_)
  have hP : va_P D cls (wsD [(4, 8, 1, 0), (1, 400, 1, 0), (4, 4, 0, 0), (4, 6, 1, 0), (1, 401, 0, 0), (1, 401, 0, 0)] cA ad Z0) H := hP
  have hz : H.size = base + 6 := hz
  refine W.eq (g2 := F0 m 19 ls [.ref (ad 5), .ref (ad 3)]) rfl ?_
  refine dn_putF (a := 3) (j := 1) (j0 := 1) (z := 2) hx hb hts hown hin hK had tco_6 rfl (by decide) (by
      have h9 : ∀ i, i < 1 → 1 ≤ i → (((fks 6)[i]?.map (fun k => decide (k.1 < 2))).getD true) = true := by decide
      intro i kd h1 h2 h3
      have h8 := h9 i h2 h1
      rw [h3] at h8
      simpa using h8) wd_119 rfl rfl (fun _ => rfl) (fun _ => rfl) rfl hP hz hS (by decide) (by decide +kernel) (fun H locs hP hz hS => ?_)
  have hP : va_P D cls (wsD [(4, 8, 1, 0), (1, 400, 1, 0), (4, 4, 0, 0), (4, 6, 2, 0), (1, 401, 0, 0), (1, 401, 0, 0)] cA ad Z0) H := hP
  have hz : H.size = base + 6 := hz
  refine lv_aload_n hx hb (by decide +kernel : decode prog_8_method_1_code 22 = .ok (.aload_n 0, 1)) rfl (lv_at hl 0 rfl) ?_
  refine lv_sipush (n := 401) (v := 401) hx hb (by decide +kernel) (by decide) ?_
  refine dn_arr (atype := .int) (ty := .int) (t := 0) (N := 401) (a0 := (401, .inl (fun _ => 0))) (en := (1, 401, 0, 0)) hx hb hts hK had rfl wd_134 rfl (fun _ h => h) (fun _ => rfl) rfl hP hz hS (by decide) (by decide) (by decide) (by decide) (Nat.le_of_ble_eq_true rfl) (Nat.le_of_ble_eq_true rfl) (by decide +kernel) (fun H hP hz hS => ?_)
  have hP : va_P D cls (wsD [(4, 8, 1, 0), (1, 400, 1, 0), (4, 4, 0, 0), (4, 6, 2, 0), (1, 401, 0, 0), (1, 401, 0, 0), (1, 401, 0, 0)] cA ad Z0) H := hP
  have hz : H.size = base + 7 := hz
  refine W.eq (g2 := F0 m 28 ls [.ref (ad 6), .ref (ad 3)]) rfl ?_
  refine dn_putF (a := 3) (j := 2) (j0 := 2) (z := 3) hx hb hts hown hin hK had tco_6 rfl (by decide) (by
      have h9 : ∀ i, i < 2 → 2 ≤ i → (((fks 6)[i]?.map (fun k => decide (k.1 < 2))).getD true) = true := by decide
      intro i kd h1 h2 h3
      have h8 := h9 i h2 h1
      rw [h3] at h8
      simpa using h8) wd_121 rfl rfl (fun _ => rfl) (fun _ => rfl) rfl hP hz hS (by decide) (by decide +kernel) (fun H locs hP hz hS => ?_)
  have hP : va_P D cls (wsD [(4, 8, 1, 0), (1, 400, 1, 0), (4, 4, 0, 0), (4, 6, 3, 0), (1, 401, 0, 0), (1, 401, 0, 0), (1, 401, 0, 0)] cA ad Z0) H := hP
  have hz : H.size = base + 7 := hz
  have hP := dn_done hP (a := 3) (ci := 6) (j := 3) rfl (by
      have h9 : ∀ i, i < 4 → 3 ≤ i → (((fks 6)[i]?.map (fun k => decide (k.1 < 2))).getD true) = true := by decide
      intro i kd h1 h3
      have h8 := h9 i (List.getElem?_eq_some_iff.mp h3).1 h1
      rw [h3] at h8
      simpa using h8)
  have hP : va_P D cls (wsD [(4, 8, 1, 0), (1, 400, 1, 0), (4, 4, 0, 0), (0, 6, 0, 0), (1, 401, 0, 0), (1, 401, 0, 0), (1, 401, 0, 0)] cA ad Z0) H := hP
  have hz : H.size = base + 7 := hz
  exact W.vret hx hb hr (fun t ht hW => ⟨⟨(), rfl, trivial, by rw [ht]; exact hz, by rw [ht]; exact hP, va_K.moved hW.alike hK, hXS.next ht hW hS, va_AO.moved hW.alike hAO, hNL.warm hW⟩, hS.F ht⟩) hS.2.2 (by decide +kernel) hlocks
set_option maxRecDepth 4000 in
theorem ci_RD_init_2 : ConI ⟨"TurnedRivers$Reader", "<init>", "()V"⟩ prog_6_method_1_code 1 2 4 1207 2 [(4, 8, 1, 0), (1, 400, 1, 0), (4, 4, 0, 0)] Z0 [(4, 8, 1, 0), (1, 400, 1, 0), (0, 4, 0, 0), (0, 6, 0, 0), (1, 401, 0, 0), (1, 401, 0, 0), (1, 401, 0, 0)] Z0 := by
  intro l D cA ad base had
  refine Met.ofW (cc := prog_6_method_1_code) (maxL := 1) (ret := none) (by decide) rfl ?_
  intro p e s m args below meth c s₁ B hml hv
  obtain ⟨rfl, hz0, hP, hK, hXS, hAO, hNL⟩ := hv
  have hx := B.exec
  have hb := B.bytes
  have hr := B.returns
  have hts0 := atoms_spec (ws := wsM ⟨"TurnedRivers$Reader", "<init>", "()V"⟩ prog_6_method_1_code 1 none) B.pre
  have hts : ∀ w ∈ gw, w.before _ s = true := fun w hw => hts0 w (List.mem_cons_of_mem _ hw)
  have hown : s.vm.findClass "TurnedRivers$Reader" = some m.cls := findClass_of_methodNamed B.named
  have hlocks := B.notSynchronized
  have hin : meth.name = "<init>" := (name_of_methodNamed B.named B.method).1
  have hS : va_S (fun q => base ≤ q) s.heap s.heap [] := va_S.rf
  have hl := lv_entry ([.ref (ad 2)]) (n := 1) (Nat.le_of_ble_eq_true rfl)
  rw [lg_entry_eq]
  generalize (lg_sl ([.ref (ad 2)]) ++ List.replicate (1 - (lg_sl ([.ref (ad 2)])).length) Slot.unset).toArray = ls at hl ⊢
  have hl : lv_has ls 1 [(0, .ref (ad 2))] := hl
  have hz00 : s.heap.size = base + 3 := hz0
  have hz := hz00
  refine lv_aload_n hx hb (by decide +kernel : decode prog_6_method_1_code 0 = .ok (.aload_n 0, 1)) rfl (lv_at hl 0 rfl) ?_
  refine W.objInit hx hb hown (hts _ wd_110) (hts _ wd_103) (hts _ wd_104) rfl (by rw [hml]; exact hl.1) rfl (by decide +kernel : decode prog_6_method_1_code 1 = .ok (.invokespecial 3, 3)) (Nat.le_of_ble_eq_true rfl) (Nat.le_of_ble_eq_true rfl) ?_
  refine W.eq (g2 := F0 m 4 ls []) rfl ?_
  refine lv_aload_n hx hb (by decide +kernel : decode prog_6_method_1_code 4 = .ok (.aload_n 0, 1)) rfl (lv_at hl 0 rfl) ?_
  refine dn_new hx hb hts hown hK had tco_6 (by decide) wd_111 wd_112 wd_81 hP hz hS (by decide) rfl rfl (Nat.le_of_ble_eq_true rfl) (Nat.le_of_ble_eq_true rfl) (by decide +kernel) (fun H hP hz hS => ?_)
  have hP : va_P D cls (wsD [(4, 8, 1, 0), (1, 400, 1, 0), (4, 4, 0, 0), (4, 6, 0, 0)] cA ad Z0) H := hP
  have hz : H.size = base + 4 := hz
  refine W.eq (g2 := F0 m 8 ls [.ref (ad 3), .ref (ad 2)]) rfl ?_
  refine lv_dup hx hb (by decide +kernel) rfl ?_
  refine dn_init (d := 2) hx hb hml hl.1 hts hown hK hXS hAO hNL had ci_TK_init_3 ⟨(Nat.le_of_ble_eq_true rfl), (Nat.le_of_ble_eq_true rfl)⟩ (by decide) (Or.inr hNL.2.1) wd_114 wd_81 wd_115 (by decide +kernel) rfl hP hz hS (Nat.le_of_ble_eq_true rfl) (Nat.le_of_ble_eq_true rfl) (Nat.le_of_ble_eq_true rfl) (by decide +kernel) (fun H locs hP hz hS => ?_)
  have hP : va_P D cls (wsD [(4, 8, 1, 0), (1, 400, 1, 0), (4, 4, 0, 0), (0, 6, 0, 0), (1, 401, 0, 0), (1, 401, 0, 0), (1, 401, 0, 0)] cA ad Z0) H := hP
  have hz : H.size = base + 7 := hz
  refine dn_putF (a := 2) (j := 0) (j0 := 0) (z := 1) hx hb hts hown hin hK had tco_4 rfl (by decide) (by
      have h9 : ∀ i, i < 0 → 0 ≤ i → (((fks 4)[i]?.map (fun k => decide (k.1 < 2))).getD true) = true := by decide
      intro i kd h1 h2 h3
      have h8 := h9 i h2 h1
      rw [h3] at h8
      simpa using h8) wd_135 rfl rfl (fun _ => rfl) (fun _ => rfl) rfl hP hz hS (by decide) (by decide +kernel) (fun H locs hP hz hS => ?_)
  have hP : va_P D cls (wsD [(4, 8, 1, 0), (1, 400, 1, 0), (4, 4, 1, 0), (0, 6, 0, 0), (1, 401, 0, 0), (1, 401, 0, 0), (1, 401, 0, 0)] cA ad Z0) H := hP
  have hz : H.size = base + 7 := hz
  have hP := dn_done hP (a := 2) (ci := 4) (j := 1) rfl (by
      have h9 : ∀ i, i < 2 → 1 ≤ i → (((fks 4)[i]?.map (fun k => decide (k.1 < 2))).getD true) = true := by decide
      intro i kd h1 h3
      have h8 := h9 i (List.getElem?_eq_some_iff.mp h3).1 h1
      rw [h3] at h8
      simpa using h8)
  have hP : va_P D cls (wsD [(4, 8, 1, 0), (1, 400, 1, 0), (0, 4, 0, 0), (0, 6, 0, 0), (1, 401, 0, 0), (1, 401, 0, 0), (1, 401, 0, 0)] cA ad Z0) H := hP
  have hz : H.size = base + 7 := hz
  exact W.vret hx hb hr (fun t ht hW => ⟨⟨(), rfl, trivial, by rw [ht]; exact hz, by rw [ht]; exact hP, va_K.moved hW.alike hK, hXS.next ht hW hS, va_AO.moved hW.alike hAO, hNL.warm hW⟩, hS.F ht⟩) hS.2.2 (by decide +kernel) hlocks
def PT_LD_init_7 (lay : List Ent) : Prg := [
  (44, sq (o_ald 0) <| sq (o_cv lay (F_LD_empty lay) 0 3) <| t_vret)]
theorem kt_LD_init_7 (lay : List Ent) : TlOk lay prog_5_method_1_code 1 "TurnedRivers$Land" 2 (PT_LD_init_7 lay) := TlOk.cons (OSx.cons (s_ald_n (j := 0) (by decide +kernel) rfl) <| OSx.cons (s_cv (c_LD_empty lay) (m_LD_empty lay) tco_3 (by decide) wd_148 wd_149 wd_150 wd_82 wd_151 (by decide +kernel) (by decide +kernel)) <| OSx.ret (by decide +kernel)) TlOk.nil
theorem st_LD_init_7 : Rn (PT_LD_init_7 [(4, 8, 3, 0), (1, 400, 1, 0), (0, 4, 0, 0), (0, 6, 0, 0), (1, 401, 0, 0), (1, 401, 0, 0), (1, 401, 0, 0), (0, 3, 0, 0), (1, 8, 0, 0), (1, 96, 0, 0), (1, 20, 0, 0), (1, 48, 0, 0), (1, 9, 0, 0)]) (fun _ S9 => S9 = (emS Z0 7)) 44 [(0, .ref 7)] [] Z0 := by
  refine TlOk.go (kt_LD_init_7 [(4, 8, 3, 0), (1, 400, 1, 0), (0, 4, 0, 0), (0, 6, 0, 0), (1, 401, 0, 0), (1, 401, 0, 0), (1, 401, 0, 0), (0, 3, 0, 0), (1, 8, 0, 0), (1, 96, 0, 0), (1, 20, 0, 0), (1, 48, 0, 0), (1, 9, 0, 0)]) rfl ?_
  simp only [sq, o_push, o_ild, o_lld, o_ald, o_ist, o_lst, o_ast, o_iinc, o_ib, o_idiv, o_irem, o_lb, o_lsh, o_iu, o_i2l, o_l2i, o_dup, o_dup2, o_pop, t_go, t_if1, t_if2, t_iret, t_zret, t_lret, t_vret, t_sw, o_gI, o_gL, o_gC, o_gR, o_pI, o_pL, o_pR, o_aget, o_lget, o_aput, o_bput, o_zput, o_lput, o_rget, o_alen, o_llen, o_cv, o_cs, o_max, o_min, o_cpI, o_cpL, o_ldS, o_gSv, o_gSc, o_gCS, o_sLen, o_sGet, o_cvS, o_gFm, lset, lsetL, ins, keepL, kpl, List.lookup_cons, List.filter_cons, List.filter_nil, List.contains_cons, List.contains_nil, List.take_succ_cons, List.take_zero, List.drop_succ_cons, List.drop_zero, List.reverse_cons, List.reverse_nil, List.nil_append, List.cons_append, List.map_cons, List.map_nil, List.sum_cons, List.sum_nil, List.length_cons, List.length_nil, Value.category, Option.toList_some, Option.toList_none, Nat.reduceBEq, Nat.reduceLT, Nat.reduceLeDiff, Nat.reduceAdd, Nat.reduceMul, Nat.reduceEqDiff, beq_self_eq_true, Bool.not_true, Bool.not_false, Bool.and_true, Bool.and_false, Bool.true_and, Bool.false_and, Bool.or_true, Bool.true_or, Bool.or_false, Bool.false_or, if_true, if_false, Bool.false_eq_true, reduceIte, Bool.not_eq_true, Nat.zero_add, true_and, and_true, Nat.le_refl, List.all_cons, List.forall_mem_cons, lv_args, lw_0, lw_1, la_1, lw_2, lw_3, lw_4, la_4, lw_5, la_5, lw_6, la_6, lw_7, lw_8, la_8, lw_9, la_9, lw_10, la_10, lw_11, la_11, lw_12, la_12, lw_13, lw_14, la_14, lw_15, la_15, lw_16, la_16, lw_17, la_17, lw_18, la_18, lw_19, lw_20, la_20, lw_21, la_21, lw_22, la_22, lw_23, la_23, lw_24, la_24, lw_25, la_25, lw_26, la_26, lw_27, la_27, lw_28, la_28, lw_29, la_29, lw_30, la_30, lw_31, la_31, lw_32, lw_33, la_33, lw_34, la_34, lw_35, la_35, lw_36, lw_37, la_37, lw_38, la_38, lw_39, lw_40, la_40, lw_41, la_41, lw_42, la_42, lw_43, lw_44, la_44, lw_45, la_45, lw_46, la_46, lw_47, lw_48, la_48, lw_49, lw_50, la_50, lw_51, la_51, lw_52, la_52, lw_53, lw_54, la_54, lw_55, la_55, lw_56, la_56, lw_57, lw_58, la_58, lw_59, la_59, lw_60, la_60, lw_61, la_61, lw_62, la_62, lw_63, la_63, lw_64, la_64, lw_65, la_65, lw_66, la_66, lw_67, la_67, lw_68, la_68, lw_69, la_69, lw_70, la_70, lw_71, la_71, lw_72, la_72, lw_73, la_73, lw_74, la_74, lw_75, la_75, lw_76, la_76, lw_77, la_77, lw_78, la_78, lw_79, la_79, lw_80, la_80, lw_81, la_81, lw_82, la_82, lw_83, la_83, lw_84, la_84, lw_85, la_85, lw_86, la_86]
  refine ⟨rfl, ?_⟩
  refine sp_LD_empty rfl rfl rfl rfl ?_
  simp only [sq, o_push, o_ild, o_lld, o_ald, o_ist, o_lst, o_ast, o_iinc, o_ib, o_idiv, o_irem, o_lb, o_lsh, o_iu, o_i2l, o_l2i, o_dup, o_dup2, o_pop, t_go, t_if1, t_if2, t_iret, t_zret, t_lret, t_vret, t_sw, o_gI, o_gL, o_gC, o_gR, o_pI, o_pL, o_pR, o_aget, o_lget, o_aput, o_bput, o_zput, o_lput, o_rget, o_alen, o_llen, o_cv, o_cs, o_max, o_min, o_cpI, o_cpL, o_ldS, o_gSv, o_gSc, o_gCS, o_sLen, o_sGet, o_cvS, o_gFm, lset, lsetL, ins, keepL, kpl, List.lookup_cons, List.filter_cons, List.filter_nil, List.contains_cons, List.contains_nil, List.take_succ_cons, List.take_zero, List.drop_succ_cons, List.drop_zero, List.reverse_cons, List.reverse_nil, List.nil_append, List.cons_append, List.map_cons, List.map_nil, List.sum_cons, List.sum_nil, List.length_cons, List.length_nil, Value.category, Option.toList_some, Option.toList_none, Nat.reduceBEq, Nat.reduceLT, Nat.reduceLeDiff, Nat.reduceAdd, Nat.reduceMul, Nat.reduceEqDiff, beq_self_eq_true, Bool.not_true, Bool.not_false, Bool.and_true, Bool.and_false, Bool.true_and, Bool.false_and, Bool.or_true, Bool.true_or, Bool.or_false, Bool.false_or, if_true, if_false, Bool.false_eq_true, reduceIte, Bool.not_eq_true, Nat.zero_add, true_and, and_true, Nat.le_refl, List.all_cons, List.forall_mem_cons, lv_args, lw_0, lw_1, la_1, lw_2, lw_3, lw_4, la_4, lw_5, la_5, lw_6, la_6, lw_7, lw_8, la_8, lw_9, la_9, lw_10, la_10, lw_11, la_11, lw_12, la_12, lw_13, lw_14, la_14, lw_15, la_15, lw_16, la_16, lw_17, la_17, lw_18, la_18, lw_19, lw_20, la_20, lw_21, la_21, lw_22, la_22, lw_23, la_23, lw_24, la_24, lw_25, la_25, lw_26, la_26, lw_27, la_27, lw_28, la_28, lw_29, la_29, lw_30, la_30, lw_31, la_31, lw_32, lw_33, la_33, lw_34, la_34, lw_35, la_35, lw_36, lw_37, la_37, lw_38, la_38, lw_39, lw_40, la_40, lw_41, la_41, lw_42, la_42, lw_43, lw_44, la_44, lw_45, la_45, lw_46, la_46, lw_47, lw_48, la_48, lw_49, lw_50, la_50, lw_51, la_51, lw_52, la_52, lw_53, lw_54, la_54, lw_55, la_55, lw_56, la_56, lw_57, lw_58, la_58, lw_59, la_59, lw_60, la_60, lw_61, la_61, lw_62, la_62, lw_63, la_63, lw_64, la_64, lw_65, la_65, lw_66, la_66, lw_67, la_67, lw_68, la_68, lw_69, la_69, lw_70, la_70, lw_71, la_71, lw_72, la_72, lw_73, la_73, lw_74, la_74, lw_75, la_75, lw_76, la_76, lw_77, la_77, lw_78, la_78, lw_79, la_79, lw_80, la_80, lw_81, la_81, lw_82, la_82, lw_83, la_83, lw_84, la_84, lw_85, la_85, lw_86, la_86]
set_option maxRecDepth 4000 in
theorem ci_LD_init_7 : ConI ⟨"TurnedRivers$Land", "<init>", "()V"⟩ prog_5_method_1_code 1 2 5 181 7 [(4, 8, 3, 0), (1, 400, 1, 0), (0, 4, 0, 0), (0, 6, 0, 0), (1, 401, 0, 0), (1, 401, 0, 0), (1, 401, 0, 0), (4, 3, 0, 0)] Z0 [(4, 8, 3, 0), (1, 400, 1, 0), (0, 4, 0, 0), (0, 6, 0, 0), (1, 401, 0, 0), (1, 401, 0, 0), (1, 401, 0, 0), (0, 3, 0, 0), (1, 8, 0, 0), (1, 96, 0, 0), (1, 20, 0, 0), (1, 48, 0, 0), (1, 9, 0, 0)] (emS Z0 7) := by
  intro l D cA ad base had
  refine Met.ofW (cc := prog_5_method_1_code) (maxL := 1) (ret := none) (by decide) rfl ?_
  intro p e s m args below meth c s₁ B hml hv
  obtain ⟨rfl, hz0, hP, hK, hXS, hAO, hNL⟩ := hv
  have hx := B.exec
  have hb := B.bytes
  have hr := B.returns
  have hts0 := atoms_spec (ws := wsM ⟨"TurnedRivers$Land", "<init>", "()V"⟩ prog_5_method_1_code 1 none) B.pre
  have hts : ∀ w ∈ gw, w.before _ s = true := fun w hw => hts0 w (List.mem_cons_of_mem _ hw)
  have hown : s.vm.findClass "TurnedRivers$Land" = some m.cls := findClass_of_methodNamed B.named
  have hlocks := B.notSynchronized
  have hin : meth.name = "<init>" := (name_of_methodNamed B.named B.method).1
  have hS : va_S (fun q => base ≤ q) s.heap s.heap [] := va_S.rf
  have hl := lv_entry ([.ref (ad 7)]) (n := 1) (Nat.le_of_ble_eq_true rfl)
  rw [lg_entry_eq]
  generalize (lg_sl ([.ref (ad 7)]) ++ List.replicate (1 - (lg_sl ([.ref (ad 7)])).length) Slot.unset).toArray = ls at hl ⊢
  have hl : lv_has ls 1 [(0, .ref (ad 7))] := hl
  have hz00 : s.heap.size = base + 8 := hz0
  have hz := hz00
  refine lv_aload_n hx hb (by decide +kernel : decode prog_5_method_1_code 0 = .ok (.aload_n 0, 1)) rfl (lv_at hl 0 rfl) ?_
  refine W.objInit hx hb hown (hts _ wd_147) (hts _ wd_103) (hts _ wd_104) rfl (by rw [hml]; exact hl.1) rfl (by decide +kernel : decode prog_5_method_1_code 1 = .ok (.invokespecial 3, 3)) (Nat.le_of_ble_eq_true rfl) (Nat.le_of_ble_eq_true rfl) ?_
  refine W.eq (g2 := F0 m 4 ls []) rfl ?_
  refine lv_aload_n hx hb (by decide +kernel : decode prog_5_method_1_code 4 = .ok (.aload_n 0, 1)) rfl (lv_at hl 0 rfl) ?_
  refine lv_bipush (n := 8) (v := 8) hx hb (by decide +kernel) (by decide) ?_
  refine dn_arr (atype := .int) (ty := .int) (t := 0) (N := 8) (a0 := (8, .inl (fun _ => 0))) (en := (1, 8, 0, 0)) hx hb hts hK had rfl wd_134 rfl (fun _ h => h) (fun _ => rfl) rfl hP hz hS (by decide) (by decide) (by decide) (by decide) (Nat.le_of_ble_eq_true rfl) (Nat.le_of_ble_eq_true rfl) (by decide +kernel) (fun H hP hz hS => ?_)
  have hP : va_P D cls (wsD [(4, 8, 3, 0), (1, 400, 1, 0), (0, 4, 0, 0), (0, 6, 0, 0), (1, 401, 0, 0), (1, 401, 0, 0), (1, 401, 0, 0), (4, 3, 0, 0), (1, 8, 0, 0)] cA ad Z0) H := hP
  have hz : H.size = base + 9 := hz
  refine W.eq (g2 := F0 m 9 ls [.ref (ad 8), .ref (ad 7)]) rfl ?_
  refine dn_putF (a := 7) (j := 5) (j0 := 0) (z := 1) hx hb hts hown hin hK had tco_3 rfl (by decide) (by
      have h9 : ∀ i, i < 5 → 0 ≤ i → (((fks 3)[i]?.map (fun k => decide (k.1 < 2))).getD true) = true := by decide
      intro i kd h1 h2 h3
      have h8 := h9 i h2 h1
      rw [h3] at h8
      simpa using h8) wd_174 rfl rfl (fun _ => rfl) (fun _ => rfl) rfl hP hz hS (by decide) (by decide +kernel) (fun H locs hP hz hS => ?_)
  have hP : va_P D cls (wsD [(4, 8, 3, 0), (1, 400, 1, 0), (0, 4, 0, 0), (0, 6, 0, 0), (1, 401, 0, 0), (1, 401, 0, 0), (1, 401, 0, 0), (4, 3, 6, 0), (1, 8, 0, 0)] cA ad Z0) H := hP
  have hz : H.size = base + 9 := hz
  refine lv_aload_n hx hb (by decide +kernel : decode prog_5_method_1_code 12 = .ok (.aload_n 0, 1)) rfl (lv_at hl 0 rfl) ?_
  refine lv_bipush (n := 96) (v := 96) hx hb (by decide +kernel) (by decide) ?_
  refine dn_arr (atype := .int) (ty := .int) (t := 0) (N := 96) (a0 := (96, .inl (fun _ => 0))) (en := (1, 96, 0, 0)) hx hb hts hK had rfl wd_134 rfl (fun _ h => h) (fun _ => rfl) rfl hP hz hS (by decide) (by decide) (by decide) (by decide) (Nat.le_of_ble_eq_true rfl) (Nat.le_of_ble_eq_true rfl) (by decide +kernel) (fun H hP hz hS => ?_)
  have hP : va_P D cls (wsD [(4, 8, 3, 0), (1, 400, 1, 0), (0, 4, 0, 0), (0, 6, 0, 0), (1, 401, 0, 0), (1, 401, 0, 0), (1, 401, 0, 0), (4, 3, 6, 0), (1, 8, 0, 0), (1, 96, 0, 0)] cA ad Z0) H := hP
  have hz : H.size = base + 10 := hz
  refine W.eq (g2 := F0 m 17 ls [.ref (ad 9), .ref (ad 7)]) rfl ?_
  refine dn_putF (a := 7) (j := 6) (j0 := 6) (z := 2) hx hb hts hown hin hK had tco_3 rfl (by decide) (by
      have h9 : ∀ i, i < 6 → 6 ≤ i → (((fks 3)[i]?.map (fun k => decide (k.1 < 2))).getD true) = true := by decide
      intro i kd h1 h2 h3
      have h8 := h9 i h2 h1
      rw [h3] at h8
      simpa using h8) wd_177 rfl rfl (fun _ => rfl) (fun _ => rfl) rfl hP hz hS (by decide) (by decide +kernel) (fun H locs hP hz hS => ?_)
  have hP : va_P D cls (wsD [(4, 8, 3, 0), (1, 400, 1, 0), (0, 4, 0, 0), (0, 6, 0, 0), (1, 401, 0, 0), (1, 401, 0, 0), (1, 401, 0, 0), (4, 3, 7, 0), (1, 8, 0, 0), (1, 96, 0, 0)] cA ad Z0) H := hP
  have hz : H.size = base + 10 := hz
  refine lv_aload_n hx hb (by decide +kernel : decode prog_5_method_1_code 20 = .ok (.aload_n 0, 1)) rfl (lv_at hl 0 rfl) ?_
  refine lv_bipush (n := 20) (v := 20) hx hb (by decide +kernel) (by decide) ?_
  refine dn_arr (atype := .int) (ty := .int) (t := 0) (N := 20) (a0 := (20, .inl (fun _ => 0))) (en := (1, 20, 0, 0)) hx hb hts hK had rfl wd_134 rfl (fun _ h => h) (fun _ => rfl) rfl hP hz hS (by decide) (by decide) (by decide) (by decide) (Nat.le_of_ble_eq_true rfl) (Nat.le_of_ble_eq_true rfl) (by decide +kernel) (fun H hP hz hS => ?_)
  have hP : va_P D cls (wsD [(4, 8, 3, 0), (1, 400, 1, 0), (0, 4, 0, 0), (0, 6, 0, 0), (1, 401, 0, 0), (1, 401, 0, 0), (1, 401, 0, 0), (4, 3, 7, 0), (1, 8, 0, 0), (1, 96, 0, 0), (1, 20, 0, 0)] cA ad Z0) H := hP
  have hz : H.size = base + 11 := hz
  refine W.eq (g2 := F0 m 25 ls [.ref (ad 10), .ref (ad 7)]) rfl ?_
  refine dn_putF (a := 7) (j := 7) (j0 := 7) (z := 3) hx hb hts hown hin hK had tco_3 rfl (by decide) (by
      have h9 : ∀ i, i < 7 → 7 ≤ i → (((fks 3)[i]?.map (fun k => decide (k.1 < 2))).getD true) = true := by decide
      intro i kd h1 h2 h3
      have h8 := h9 i h2 h1
      rw [h3] at h8
      simpa using h8) wd_179 rfl rfl (fun _ => rfl) (fun _ => rfl) rfl hP hz hS (by decide) (by decide +kernel) (fun H locs hP hz hS => ?_)
  have hP : va_P D cls (wsD [(4, 8, 3, 0), (1, 400, 1, 0), (0, 4, 0, 0), (0, 6, 0, 0), (1, 401, 0, 0), (1, 401, 0, 0), (1, 401, 0, 0), (4, 3, 8, 0), (1, 8, 0, 0), (1, 96, 0, 0), (1, 20, 0, 0)] cA ad Z0) H := hP
  have hz : H.size = base + 11 := hz
  refine lv_aload_n hx hb (by decide +kernel : decode prog_5_method_1_code 28 = .ok (.aload_n 0, 1)) rfl (lv_at hl 0 rfl) ?_
  refine lv_bipush (n := 48) (v := 48) hx hb (by decide +kernel) (by decide) ?_
  refine dn_arr (atype := .int) (ty := .int) (t := 0) (N := 48) (a0 := (48, .inl (fun _ => 0))) (en := (1, 48, 0, 0)) hx hb hts hK had rfl wd_134 rfl (fun _ h => h) (fun _ => rfl) rfl hP hz hS (by decide) (by decide) (by decide) (by decide) (Nat.le_of_ble_eq_true rfl) (Nat.le_of_ble_eq_true rfl) (by decide +kernel) (fun H hP hz hS => ?_)
  have hP : va_P D cls (wsD [(4, 8, 3, 0), (1, 400, 1, 0), (0, 4, 0, 0), (0, 6, 0, 0), (1, 401, 0, 0), (1, 401, 0, 0), (1, 401, 0, 0), (4, 3, 8, 0), (1, 8, 0, 0), (1, 96, 0, 0), (1, 20, 0, 0), (1, 48, 0, 0)] cA ad Z0) H := hP
  have hz : H.size = base + 12 := hz
  refine W.eq (g2 := F0 m 33 ls [.ref (ad 11), .ref (ad 7)]) rfl ?_
  refine dn_putF (a := 7) (j := 8) (j0 := 8) (z := 4) hx hb hts hown hin hK had tco_3 rfl (by decide) (by
      have h9 : ∀ i, i < 8 → 8 ≤ i → (((fks 3)[i]?.map (fun k => decide (k.1 < 2))).getD true) = true := by decide
      intro i kd h1 h2 h3
      have h8 := h9 i h2 h1
      rw [h3] at h8
      simpa using h8) wd_181 rfl rfl (fun _ => rfl) (fun _ => rfl) rfl hP hz hS (by decide) (by decide +kernel) (fun H locs hP hz hS => ?_)
  have hP : va_P D cls (wsD [(4, 8, 3, 0), (1, 400, 1, 0), (0, 4, 0, 0), (0, 6, 0, 0), (1, 401, 0, 0), (1, 401, 0, 0), (1, 401, 0, 0), (4, 3, 9, 0), (1, 8, 0, 0), (1, 96, 0, 0), (1, 20, 0, 0), (1, 48, 0, 0)] cA ad Z0) H := hP
  have hz : H.size = base + 12 := hz
  refine lv_aload_n hx hb (by decide +kernel : decode prog_5_method_1_code 36 = .ok (.aload_n 0, 1)) rfl (lv_at hl 0 rfl) ?_
  refine lv_bipush (n := 9) (v := 9) hx hb (by decide +kernel) (by decide) ?_
  refine dn_arr (atype := .int) (ty := .int) (t := 0) (N := 9) (a0 := (9, .inl (fun _ => 0))) (en := (1, 9, 0, 0)) hx hb hts hK had rfl wd_134 rfl (fun _ h => h) (fun _ => rfl) rfl hP hz hS (by decide) (by decide) (by decide) (by decide) (Nat.le_of_ble_eq_true rfl) (Nat.le_of_ble_eq_true rfl) (by decide +kernel) (fun H hP hz hS => ?_)
  have hP : va_P D cls (wsD [(4, 8, 3, 0), (1, 400, 1, 0), (0, 4, 0, 0), (0, 6, 0, 0), (1, 401, 0, 0), (1, 401, 0, 0), (1, 401, 0, 0), (4, 3, 9, 0), (1, 8, 0, 0), (1, 96, 0, 0), (1, 20, 0, 0), (1, 48, 0, 0), (1, 9, 0, 0)] cA ad Z0) H := hP
  have hz : H.size = base + 13 := hz
  refine W.eq (g2 := F0 m 41 ls [.ref (ad 12), .ref (ad 7)]) rfl ?_
  refine dn_putF (a := 7) (j := 9) (j0 := 9) (z := 5) hx hb hts hown hin hK had tco_3 rfl (by decide) (by
      have h9 : ∀ i, i < 9 → 9 ≤ i → (((fks 3)[i]?.map (fun k => decide (k.1 < 2))).getD true) = true := by decide
      intro i kd h1 h2 h3
      have h8 := h9 i h2 h1
      rw [h3] at h8
      simpa using h8) wd_183 rfl rfl (fun _ => rfl) (fun _ => rfl) rfl hP hz hS (by decide) (by decide +kernel) (fun H locs hP hz hS => ?_)
  have hP : va_P D cls (wsD [(4, 8, 3, 0), (1, 400, 1, 0), (0, 4, 0, 0), (0, 6, 0, 0), (1, 401, 0, 0), (1, 401, 0, 0), (1, 401, 0, 0), (4, 3, 10, 0), (1, 8, 0, 0), (1, 96, 0, 0), (1, 20, 0, 0), (1, 48, 0, 0), (1, 9, 0, 0)] cA ad Z0) H := hP
  have hz : H.size = base + 13 := hz
  have hP := dn_done hP (a := 7) (ci := 3) (j := 10) rfl (by
      have h9 : ∀ i, i < 10 → 10 ≤ i → (((fks 3)[i]?.map (fun k => decide (k.1 < 2))).getD true) = true := by decide
      intro i kd h1 h3
      have h8 := h9 i (List.getElem?_eq_some_iff.mp h3).1 h1
      rw [h3] at h8
      simpa using h8)
  have hP : va_P D cls (wsD [(4, 8, 3, 0), (1, 400, 1, 0), (0, 4, 0, 0), (0, 6, 0, 0), (1, 401, 0, 0), (1, 401, 0, 0), (1, 401, 0, 0), (0, 3, 0, 0), (1, 8, 0, 0), (1, 96, 0, 0), (1, 20, 0, 0), (1, 48, 0, 0), (1, 9, 0, 0)] cA ad Z0) H := hP
  have hz : H.size = base + 13 := hz
  have hPL : va_P D cls (wsL [(4, 8, 3, 0), (1, 400, 1, 0), (0, 4, 0, 0), (0, 6, 0, 0), (1, 401, 0, 0), (1, 401, 0, 0), (1, 401, 0, 0), (0, 3, 0, 0), (1, 8, 0, 0), (1, 96, 0, 0), (1, 20, 0, 0), (1, 48, 0, 0), (1, 9, 0, 0)] cA ad Z0) H := hP
  have hDL : va_D (fun q => base ≤ q) (wsL [(4, 8, 3, 0), (1, 400, 1, 0), (0, 4, 0, 0), (0, 6, 0, 0), (1, 401, 0, 0), (1, 401, 0, 0), (1, 401, 0, 0), (0, 3, 0, 0), (1, 8, 0, 0), (1, 96, 0, 0), (1, 20, 0, 0), (1, 48, 0, 0), (1, 9, 0, 0)] cA ad Z0) := wsD_D had (by decide)
  have hT := TlOk.run (kt_LD_init_7 [(4, 8, 3, 0), (1, 400, 1, 0), (0, 4, 0, 0), (0, 6, 0, 0), (1, 401, 0, 0), (1, 401, 0, 0), (1, 401, 0, 0), (0, 3, 0, 0), (1, 8, 0, 0), (1, 96, 0, 0), (1, 20, 0, 0), (1, 48, 0, 0), (1, 9, 0, 0)]) (p := p) (l := l) (e := e) (R := rmI 2 5 181) (s := s) (m := m) (args := [Value.ref (ad 7)].toArray) (below := below) (meth := meth) (c := c) (D := D) (cA := cA) (ad := ad) (A := fun q => base ≤ q) (ret := none) (cs := 5) (sl := 181) (Qm := MQ below (va_Qv (fun _ : Unit => True) (fun _ t => BI [(4, 8, 3, 0), (1, 400, 1, 0), (0, 4, 0, 0), (0, 6, 0, 0), (1, 401, 0, 0), (1, 401, 0, 0), (1, 401, 0, 0), (0, 3, 0, 0), (1, 8, 0, 0), (1, 96, 0, 0), (1, 20, 0, 0), (1, 48, 0, 0), (1, 9, 0, 0)] D cA ad base (emS Z0 7) t) (fun q => base ≤ q)) [Value.ref (ad 7)].toArray s 5 181 (fun q => base ≤ q)) (Q := fun _ S9 => S9 = (emS Z0 7)) (pc := 44) (lo := [(0, .ref 7)]) (st := []) (S := Z0) ⟨Nat.le_refl _, Nat.le_refl _, Nat.le_refl _, Nat.le_refl _⟩ ⟨hx, hb, hr, hlocks, hml, hown, hts, hK, hXS⟩ (fun S9 pc9 ls H locs hQ hd hP hS => ?_) st_LD_init_7
  · exact hT H _ ls hPL hDL hS hl
  · subst hQ
    refine W_size (fun hsz => ?_)
    have hP : va_P D cls (wsD [(4, 8, 3, 0), (1, 400, 1, 0), (0, 4, 0, 0), (0, 6, 0, 0), (1, 401, 0, 0), (1, 401, 0, 0), (1, 401, 0, 0), (0, 3, 0, 0), (1, 8, 0, 0), (1, 96, 0, 0), (1, 20, 0, 0), (1, 48, 0, 0), (1, 9, 0, 0)] cA ad (emS Z0 7)) H := hP
    have hlt := (hP 12 _ (wsD_at rfl)).lt
    have hlt2 : ad 12 < H.size := hlt
    rw [had 12 (by decide)] at hlt2
    have hz : H.size = base + 13 := sz_eq hsz hz00 hlt2 rfl
    exact W.vret hx hb hr (fun t ht hW => ⟨⟨(), rfl, trivial, by rw [ht]; exact hz, by rw [ht]; exact hP, va_K.moved hW.alike hK, hXS.next ht hW hS, va_AO.moved hW.alike hAO, hNL.warm hW⟩, hS.F ht⟩) hS.2.2 hd hlocks
def PT_LD_init_13 (lay : List Ent) : Prg := [
  (44, sq (o_ald 0) <| sq (o_cv lay (F_LD_empty lay) 0 3) <| t_vret)]
theorem kt_LD_init_13 (lay : List Ent) : TlOk lay prog_5_method_1_code 1 "TurnedRivers$Land" 2 (PT_LD_init_13 lay) := TlOk.cons (OSx.cons (s_ald_n (j := 0) (by decide +kernel) rfl) <| OSx.cons (s_cv (c_LD_empty lay) (m_LD_empty lay) tco_3 (by decide) wd_148 wd_149 wd_150 wd_82 wd_151 (by decide +kernel) (by decide +kernel)) <| OSx.ret (by decide +kernel)) TlOk.nil
theorem st_LD_init_13 : Rn (PT_LD_init_13 [(4, 8, 4, 0), (1, 400, 1, 0), (0, 4, 0, 0), (0, 6, 0, 0), (1, 401, 0, 0), (1, 401, 0, 0), (1, 401, 0, 0), (0, 3, 0, 0), (1, 8, 0, 0), (1, 96, 0, 0), (1, 20, 0, 0), (1, 48, 0, 0), (1, 9, 0, 0), (0, 3, 0, 0), (1, 8, 0, 0), (1, 96, 0, 0), (1, 20, 0, 0), (1, 48, 0, 0), (1, 9, 0, 0)]) (fun _ S9 => S9 = (emS (sR (emS Z0 7) 0 3 7) 13)) 44 [(0, .ref 13)] [] (sR (emS Z0 7) 0 3 7) := by
  refine TlOk.go (kt_LD_init_13 [(4, 8, 4, 0), (1, 400, 1, 0), (0, 4, 0, 0), (0, 6, 0, 0), (1, 401, 0, 0), (1, 401, 0, 0), (1, 401, 0, 0), (0, 3, 0, 0), (1, 8, 0, 0), (1, 96, 0, 0), (1, 20, 0, 0), (1, 48, 0, 0), (1, 9, 0, 0), (0, 3, 0, 0), (1, 8, 0, 0), (1, 96, 0, 0), (1, 20, 0, 0), (1, 48, 0, 0), (1, 9, 0, 0)]) rfl ?_
  simp only [sq, o_push, o_ild, o_lld, o_ald, o_ist, o_lst, o_ast, o_iinc, o_ib, o_idiv, o_irem, o_lb, o_lsh, o_iu, o_i2l, o_l2i, o_dup, o_dup2, o_pop, t_go, t_if1, t_if2, t_iret, t_zret, t_lret, t_vret, t_sw, o_gI, o_gL, o_gC, o_gR, o_pI, o_pL, o_pR, o_aget, o_lget, o_aput, o_bput, o_zput, o_lput, o_rget, o_alen, o_llen, o_cv, o_cs, o_max, o_min, o_cpI, o_cpL, o_ldS, o_gSv, o_gSc, o_gCS, o_sLen, o_sGet, o_cvS, o_gFm, lset, lsetL, ins, keepL, kpl, List.lookup_cons, List.filter_cons, List.filter_nil, List.contains_cons, List.contains_nil, List.take_succ_cons, List.take_zero, List.drop_succ_cons, List.drop_zero, List.reverse_cons, List.reverse_nil, List.nil_append, List.cons_append, List.map_cons, List.map_nil, List.sum_cons, List.sum_nil, List.length_cons, List.length_nil, Value.category, Option.toList_some, Option.toList_none, Nat.reduceBEq, Nat.reduceLT, Nat.reduceLeDiff, Nat.reduceAdd, Nat.reduceMul, Nat.reduceEqDiff, beq_self_eq_true, Bool.not_true, Bool.not_false, Bool.and_true, Bool.and_false, Bool.true_and, Bool.false_and, Bool.or_true, Bool.true_or, Bool.or_false, Bool.false_or, if_true, if_false, Bool.false_eq_true, reduceIte, Bool.not_eq_true, Nat.zero_add, true_and, and_true, Nat.le_refl, List.all_cons, List.forall_mem_cons, lv_args, lw_0, lw_1, la_1, lw_2, lw_3, lw_4, la_4, lw_5, la_5, lw_6, la_6, lw_7, lw_8, la_8, lw_9, la_9, lw_10, la_10, lw_11, la_11, lw_12, la_12, lw_13, lw_14, la_14, lw_15, la_15, lw_16, la_16, lw_17, la_17, lw_18, la_18, lw_19, lw_20, la_20, lw_21, la_21, lw_22, la_22, lw_23, la_23, lw_24, la_24, lw_25, la_25, lw_26, la_26, lw_27, la_27, lw_28, la_28, lw_29, la_29, lw_30, la_30, lw_31, la_31, lw_32, lw_33, la_33, lw_34, la_34, lw_35, la_35, lw_36, lw_37, la_37, lw_38, la_38, lw_39, lw_40, la_40, lw_41, la_41, lw_42, la_42, lw_43, lw_44, la_44, lw_45, la_45, lw_46, la_46, lw_47, lw_48, la_48, lw_49, lw_50, la_50, lw_51, la_51, lw_52, la_52, lw_53, lw_54, la_54, lw_55, la_55, lw_56, la_56, lw_57, lw_58, la_58, lw_59, la_59, lw_60, la_60, lw_61, la_61, lw_62, la_62, lw_63, la_63, lw_64, la_64, lw_65, la_65, lw_66, la_66, lw_67, la_67, lw_68, la_68, lw_69, la_69, lw_70, la_70, lw_71, la_71, lw_72, la_72, lw_73, la_73, lw_74, la_74, lw_75, la_75, lw_76, la_76, lw_77, la_77, lw_78, la_78, lw_79, la_79, lw_80, la_80, lw_81, la_81, lw_82, la_82, lw_83, la_83, lw_84, la_84, lw_85, la_85, lw_86, la_86]
  refine ⟨rfl, ?_⟩
  refine sp_LD_empty rfl rfl rfl rfl ?_
  simp only [sq, o_push, o_ild, o_lld, o_ald, o_ist, o_lst, o_ast, o_iinc, o_ib, o_idiv, o_irem, o_lb, o_lsh, o_iu, o_i2l, o_l2i, o_dup, o_dup2, o_pop, t_go, t_if1, t_if2, t_iret, t_zret, t_lret, t_vret, t_sw, o_gI, o_gL, o_gC, o_gR, o_pI, o_pL, o_pR, o_aget, o_lget, o_aput, o_bput, o_zput, o_lput, o_rget, o_alen, o_llen, o_cv, o_cs, o_max, o_min, o_cpI, o_cpL, o_ldS, o_gSv, o_gSc, o_gCS, o_sLen, o_sGet, o_cvS, o_gFm, lset, lsetL, ins, keepL, kpl, List.lookup_cons, List.filter_cons, List.filter_nil, List.contains_cons, List.contains_nil, List.take_succ_cons, List.take_zero, List.drop_succ_cons, List.drop_zero, List.reverse_cons, List.reverse_nil, List.nil_append, List.cons_append, List.map_cons, List.map_nil, List.sum_cons, List.sum_nil, List.length_cons, List.length_nil, Value.category, Option.toList_some, Option.toList_none, Nat.reduceBEq, Nat.reduceLT, Nat.reduceLeDiff, Nat.reduceAdd, Nat.reduceMul, Nat.reduceEqDiff, beq_self_eq_true, Bool.not_true, Bool.not_false, Bool.and_true, Bool.and_false, Bool.true_and, Bool.false_and, Bool.or_true, Bool.true_or, Bool.or_false, Bool.false_or, if_true, if_false, Bool.false_eq_true, reduceIte, Bool.not_eq_true, Nat.zero_add, true_and, and_true, Nat.le_refl, List.all_cons, List.forall_mem_cons, lv_args, lw_0, lw_1, la_1, lw_2, lw_3, lw_4, la_4, lw_5, la_5, lw_6, la_6, lw_7, lw_8, la_8, lw_9, la_9, lw_10, la_10, lw_11, la_11, lw_12, la_12, lw_13, lw_14, la_14, lw_15, la_15, lw_16, la_16, lw_17, la_17, lw_18, la_18, lw_19, lw_20, la_20, lw_21, la_21, lw_22, la_22, lw_23, la_23, lw_24, la_24, lw_25, la_25, lw_26, la_26, lw_27, la_27, lw_28, la_28, lw_29, la_29, lw_30, la_30, lw_31, la_31, lw_32, lw_33, la_33, lw_34, la_34, lw_35, la_35, lw_36, lw_37, la_37, lw_38, la_38, lw_39, lw_40, la_40, lw_41, la_41, lw_42, la_42, lw_43, lw_44, la_44, lw_45, la_45, lw_46, la_46, lw_47, lw_48, la_48, lw_49, lw_50, la_50, lw_51, la_51, lw_52, la_52, lw_53, lw_54, la_54, lw_55, la_55, lw_56, la_56, lw_57, lw_58, la_58, lw_59, la_59, lw_60, la_60, lw_61, la_61, lw_62, la_62, lw_63, la_63, lw_64, la_64, lw_65, la_65, lw_66, la_66, lw_67, la_67, lw_68, la_68, lw_69, la_69, lw_70, la_70, lw_71, la_71, lw_72, la_72, lw_73, la_73, lw_74, la_74, lw_75, la_75, lw_76, la_76, lw_77, la_77, lw_78, la_78, lw_79, la_79, lw_80, la_80, lw_81, la_81, lw_82, la_82, lw_83, la_83, lw_84, la_84, lw_85, la_85, lw_86, la_86]
set_option maxRecDepth 4000 in
theorem ci_LD_init_13 : ConI ⟨"TurnedRivers$Land", "<init>", "()V"⟩ prog_5_method_1_code 1 2 5 181 13 [(4, 8, 4, 0), (1, 400, 1, 0), (0, 4, 0, 0), (0, 6, 0, 0), (1, 401, 0, 0), (1, 401, 0, 0), (1, 401, 0, 0), (0, 3, 0, 0), (1, 8, 0, 0), (1, 96, 0, 0), (1, 20, 0, 0), (1, 48, 0, 0), (1, 9, 0, 0), (4, 3, 0, 0)] (sR (emS Z0 7) 0 3 7) [(4, 8, 4, 0), (1, 400, 1, 0), (0, 4, 0, 0), (0, 6, 0, 0), (1, 401, 0, 0), (1, 401, 0, 0), (1, 401, 0, 0), (0, 3, 0, 0), (1, 8, 0, 0), (1, 96, 0, 0), (1, 20, 0, 0), (1, 48, 0, 0), (1, 9, 0, 0), (0, 3, 0, 0), (1, 8, 0, 0), (1, 96, 0, 0), (1, 20, 0, 0), (1, 48, 0, 0), (1, 9, 0, 0)] (emS (sR (emS Z0 7) 0 3 7) 13) := by
  intro l D cA ad base had
  refine Met.ofW (cc := prog_5_method_1_code) (maxL := 1) (ret := none) (by decide) rfl ?_
  intro p e s m args below meth c s₁ B hml hv
  obtain ⟨rfl, hz0, hP, hK, hXS, hAO, hNL⟩ := hv
  have hx := B.exec
  have hb := B.bytes
  have hr := B.returns
  have hts0 := atoms_spec (ws := wsM ⟨"TurnedRivers$Land", "<init>", "()V"⟩ prog_5_method_1_code 1 none) B.pre
  have hts : ∀ w ∈ gw, w.before _ s = true := fun w hw => hts0 w (List.mem_cons_of_mem _ hw)
  have hown : s.vm.findClass "TurnedRivers$Land" = some m.cls := findClass_of_methodNamed B.named
  have hlocks := B.notSynchronized
  have hin : meth.name = "<init>" := (name_of_methodNamed B.named B.method).1
  have hS : va_S (fun q => base ≤ q) s.heap s.heap [] := va_S.rf
  have hl := lv_entry ([.ref (ad 13)]) (n := 1) (Nat.le_of_ble_eq_true rfl)
  rw [lg_entry_eq]
  generalize (lg_sl ([.ref (ad 13)]) ++ List.replicate (1 - (lg_sl ([.ref (ad 13)])).length) Slot.unset).toArray = ls at hl ⊢
  have hl : lv_has ls 1 [(0, .ref (ad 13))] := hl
  have hz00 : s.heap.size = base + 14 := hz0
  have hz := hz00
  refine lv_aload_n hx hb (by decide +kernel : decode prog_5_method_1_code 0 = .ok (.aload_n 0, 1)) rfl (lv_at hl 0 rfl) ?_
  refine W.objInit hx hb hown (hts _ wd_147) (hts _ wd_103) (hts _ wd_104) rfl (by rw [hml]; exact hl.1) rfl (by decide +kernel : decode prog_5_method_1_code 1 = .ok (.invokespecial 3, 3)) (Nat.le_of_ble_eq_true rfl) (Nat.le_of_ble_eq_true rfl) ?_
  refine W.eq (g2 := F0 m 4 ls []) rfl ?_
  refine lv_aload_n hx hb (by decide +kernel : decode prog_5_method_1_code 4 = .ok (.aload_n 0, 1)) rfl (lv_at hl 0 rfl) ?_
  refine lv_bipush (n := 8) (v := 8) hx hb (by decide +kernel) (by decide) ?_
  refine dn_arr (atype := .int) (ty := .int) (t := 0) (N := 8) (a0 := (8, .inl (fun _ => 0))) (en := (1, 8, 0, 0)) hx hb hts hK had rfl wd_134 rfl (fun _ h => h) (fun _ => rfl) rfl hP hz hS (by decide) (by decide) (by decide) (by decide) (Nat.le_of_ble_eq_true rfl) (Nat.le_of_ble_eq_true rfl) (by decide +kernel) (fun H hP hz hS => ?_)
  have hP : va_P D cls (wsD [(4, 8, 4, 0), (1, 400, 1, 0), (0, 4, 0, 0), (0, 6, 0, 0), (1, 401, 0, 0), (1, 401, 0, 0), (1, 401, 0, 0), (0, 3, 0, 0), (1, 8, 0, 0), (1, 96, 0, 0), (1, 20, 0, 0), (1, 48, 0, 0), (1, 9, 0, 0), (4, 3, 0, 0), (1, 8, 0, 0)] cA ad (sR (emS Z0 7) 0 3 7)) H := hP
  have hz : H.size = base + 15 := hz
  refine W.eq (g2 := F0 m 9 ls [.ref (ad 14), .ref (ad 13)]) rfl ?_
  refine dn_putF (a := 13) (j := 5) (j0 := 0) (z := 1) hx hb hts hown hin hK had tco_3 rfl (by decide) (by
      have h9 : ∀ i, i < 5 → 0 ≤ i → (((fks 3)[i]?.map (fun k => decide (k.1 < 2))).getD true) = true := by decide
      intro i kd h1 h2 h3
      have h8 := h9 i h2 h1
      rw [h3] at h8
      simpa using h8) wd_174 rfl rfl (fun _ => rfl) (fun _ => rfl) rfl hP hz hS (by decide) (by decide +kernel) (fun H locs hP hz hS => ?_)
  have hP : va_P D cls (wsD [(4, 8, 4, 0), (1, 400, 1, 0), (0, 4, 0, 0), (0, 6, 0, 0), (1, 401, 0, 0), (1, 401, 0, 0), (1, 401, 0, 0), (0, 3, 0, 0), (1, 8, 0, 0), (1, 96, 0, 0), (1, 20, 0, 0), (1, 48, 0, 0), (1, 9, 0, 0), (4, 3, 6, 0), (1, 8, 0, 0)] cA ad (sR (emS Z0 7) 0 3 7)) H := hP
  have hz : H.size = base + 15 := hz
  refine lv_aload_n hx hb (by decide +kernel : decode prog_5_method_1_code 12 = .ok (.aload_n 0, 1)) rfl (lv_at hl 0 rfl) ?_
  refine lv_bipush (n := 96) (v := 96) hx hb (by decide +kernel) (by decide) ?_
  refine dn_arr (atype := .int) (ty := .int) (t := 0) (N := 96) (a0 := (96, .inl (fun _ => 0))) (en := (1, 96, 0, 0)) hx hb hts hK had rfl wd_134 rfl (fun _ h => h) (fun _ => rfl) rfl hP hz hS (by decide) (by decide) (by decide) (by decide) (Nat.le_of_ble_eq_true rfl) (Nat.le_of_ble_eq_true rfl) (by decide +kernel) (fun H hP hz hS => ?_)
  have hP : va_P D cls (wsD [(4, 8, 4, 0), (1, 400, 1, 0), (0, 4, 0, 0), (0, 6, 0, 0), (1, 401, 0, 0), (1, 401, 0, 0), (1, 401, 0, 0), (0, 3, 0, 0), (1, 8, 0, 0), (1, 96, 0, 0), (1, 20, 0, 0), (1, 48, 0, 0), (1, 9, 0, 0), (4, 3, 6, 0), (1, 8, 0, 0), (1, 96, 0, 0)] cA ad (sR (emS Z0 7) 0 3 7)) H := hP
  have hz : H.size = base + 16 := hz
  refine W.eq (g2 := F0 m 17 ls [.ref (ad 15), .ref (ad 13)]) rfl ?_
  refine dn_putF (a := 13) (j := 6) (j0 := 6) (z := 2) hx hb hts hown hin hK had tco_3 rfl (by decide) (by
      have h9 : ∀ i, i < 6 → 6 ≤ i → (((fks 3)[i]?.map (fun k => decide (k.1 < 2))).getD true) = true := by decide
      intro i kd h1 h2 h3
      have h8 := h9 i h2 h1
      rw [h3] at h8
      simpa using h8) wd_177 rfl rfl (fun _ => rfl) (fun _ => rfl) rfl hP hz hS (by decide) (by decide +kernel) (fun H locs hP hz hS => ?_)
  have hP : va_P D cls (wsD [(4, 8, 4, 0), (1, 400, 1, 0), (0, 4, 0, 0), (0, 6, 0, 0), (1, 401, 0, 0), (1, 401, 0, 0), (1, 401, 0, 0), (0, 3, 0, 0), (1, 8, 0, 0), (1, 96, 0, 0), (1, 20, 0, 0), (1, 48, 0, 0), (1, 9, 0, 0), (4, 3, 7, 0), (1, 8, 0, 0), (1, 96, 0, 0)] cA ad (sR (emS Z0 7) 0 3 7)) H := hP
  have hz : H.size = base + 16 := hz
  refine lv_aload_n hx hb (by decide +kernel : decode prog_5_method_1_code 20 = .ok (.aload_n 0, 1)) rfl (lv_at hl 0 rfl) ?_
  refine lv_bipush (n := 20) (v := 20) hx hb (by decide +kernel) (by decide) ?_
  refine dn_arr (atype := .int) (ty := .int) (t := 0) (N := 20) (a0 := (20, .inl (fun _ => 0))) (en := (1, 20, 0, 0)) hx hb hts hK had rfl wd_134 rfl (fun _ h => h) (fun _ => rfl) rfl hP hz hS (by decide) (by decide) (by decide) (by decide) (Nat.le_of_ble_eq_true rfl) (Nat.le_of_ble_eq_true rfl) (by decide +kernel) (fun H hP hz hS => ?_)
  have hP : va_P D cls (wsD [(4, 8, 4, 0), (1, 400, 1, 0), (0, 4, 0, 0), (0, 6, 0, 0), (1, 401, 0, 0), (1, 401, 0, 0), (1, 401, 0, 0), (0, 3, 0, 0), (1, 8, 0, 0), (1, 96, 0, 0), (1, 20, 0, 0), (1, 48, 0, 0), (1, 9, 0, 0), (4, 3, 7, 0), (1, 8, 0, 0), (1, 96, 0, 0), (1, 20, 0, 0)] cA ad (sR (emS Z0 7) 0 3 7)) H := hP
  have hz : H.size = base + 17 := hz
  refine W.eq (g2 := F0 m 25 ls [.ref (ad 16), .ref (ad 13)]) rfl ?_
  refine dn_putF (a := 13) (j := 7) (j0 := 7) (z := 3) hx hb hts hown hin hK had tco_3 rfl (by decide) (by
      have h9 : ∀ i, i < 7 → 7 ≤ i → (((fks 3)[i]?.map (fun k => decide (k.1 < 2))).getD true) = true := by decide
      intro i kd h1 h2 h3
      have h8 := h9 i h2 h1
      rw [h3] at h8
      simpa using h8) wd_179 rfl rfl (fun _ => rfl) (fun _ => rfl) rfl hP hz hS (by decide) (by decide +kernel) (fun H locs hP hz hS => ?_)
  have hP : va_P D cls (wsD [(4, 8, 4, 0), (1, 400, 1, 0), (0, 4, 0, 0), (0, 6, 0, 0), (1, 401, 0, 0), (1, 401, 0, 0), (1, 401, 0, 0), (0, 3, 0, 0), (1, 8, 0, 0), (1, 96, 0, 0), (1, 20, 0, 0), (1, 48, 0, 0), (1, 9, 0, 0), (4, 3, 8, 0), (1, 8, 0, 0), (1, 96, 0, 0), (1, 20, 0, 0)] cA ad (sR (emS Z0 7) 0 3 7)) H := hP
  have hz : H.size = base + 17 := hz
  refine lv_aload_n hx hb (by decide +kernel : decode prog_5_method_1_code 28 = .ok (.aload_n 0, 1)) rfl (lv_at hl 0 rfl) ?_
  refine lv_bipush (n := 48) (v := 48) hx hb (by decide +kernel) (by decide) ?_
  refine dn_arr (atype := .int) (ty := .int) (t := 0) (N := 48) (a0 := (48, .inl (fun _ => 0))) (en := (1, 48, 0, 0)) hx hb hts hK had rfl wd_134 rfl (fun _ h => h) (fun _ => rfl) rfl hP hz hS (by decide) (by decide) (by decide) (by decide) (Nat.le_of_ble_eq_true rfl) (Nat.le_of_ble_eq_true rfl) (by decide +kernel) (fun H hP hz hS => ?_)
  have hP : va_P D cls (wsD [(4, 8, 4, 0), (1, 400, 1, 0), (0, 4, 0, 0), (0, 6, 0, 0), (1, 401, 0, 0), (1, 401, 0, 0), (1, 401, 0, 0), (0, 3, 0, 0), (1, 8, 0, 0), (1, 96, 0, 0), (1, 20, 0, 0), (1, 48, 0, 0), (1, 9, 0, 0), (4, 3, 8, 0), (1, 8, 0, 0), (1, 96, 0, 0), (1, 20, 0, 0), (1, 48, 0, 0)] cA ad (sR (emS Z0 7) 0 3 7)) H := hP
  have hz : H.size = base + 18 := hz
  refine W.eq (g2 := F0 m 33 ls [.ref (ad 17), .ref (ad 13)]) rfl ?_
  refine dn_putF (a := 13) (j := 8) (j0 := 8) (z := 4) hx hb hts hown hin hK had tco_3 rfl (by decide) (by
      have h9 : ∀ i, i < 8 → 8 ≤ i → (((fks 3)[i]?.map (fun k => decide (k.1 < 2))).getD true) = true := by decide
      intro i kd h1 h2 h3
      have h8 := h9 i h2 h1
      rw [h3] at h8
      simpa using h8) wd_181 rfl rfl (fun _ => rfl) (fun _ => rfl) rfl hP hz hS (by decide) (by decide +kernel) (fun H locs hP hz hS => ?_)
  have hP : va_P D cls (wsD [(4, 8, 4, 0), (1, 400, 1, 0), (0, 4, 0, 0), (0, 6, 0, 0), (1, 401, 0, 0), (1, 401, 0, 0), (1, 401, 0, 0), (0, 3, 0, 0), (1, 8, 0, 0), (1, 96, 0, 0), (1, 20, 0, 0), (1, 48, 0, 0), (1, 9, 0, 0), (4, 3, 9, 0), (1, 8, 0, 0), (1, 96, 0, 0), (1, 20, 0, 0), (1, 48, 0, 0)] cA ad (sR (emS Z0 7) 0 3 7)) H := hP
  have hz : H.size = base + 18 := hz
  refine lv_aload_n hx hb (by decide +kernel : decode prog_5_method_1_code 36 = .ok (.aload_n 0, 1)) rfl (lv_at hl 0 rfl) ?_
  refine lv_bipush (n := 9) (v := 9) hx hb (by decide +kernel) (by decide) ?_
  refine dn_arr (atype := .int) (ty := .int) (t := 0) (N := 9) (a0 := (9, .inl (fun _ => 0))) (en := (1, 9, 0, 0)) hx hb hts hK had rfl wd_134 rfl (fun _ h => h) (fun _ => rfl) rfl hP hz hS (by decide) (by decide) (by decide) (by decide) (Nat.le_of_ble_eq_true rfl) (Nat.le_of_ble_eq_true rfl) (by decide +kernel) (fun H hP hz hS => ?_)
  have hP : va_P D cls (wsD [(4, 8, 4, 0), (1, 400, 1, 0), (0, 4, 0, 0), (0, 6, 0, 0), (1, 401, 0, 0), (1, 401, 0, 0), (1, 401, 0, 0), (0, 3, 0, 0), (1, 8, 0, 0), (1, 96, 0, 0), (1, 20, 0, 0), (1, 48, 0, 0), (1, 9, 0, 0), (4, 3, 9, 0), (1, 8, 0, 0), (1, 96, 0, 0), (1, 20, 0, 0), (1, 48, 0, 0), (1, 9, 0, 0)] cA ad (sR (emS Z0 7) 0 3 7)) H := hP
  have hz : H.size = base + 19 := hz
  refine W.eq (g2 := F0 m 41 ls [.ref (ad 18), .ref (ad 13)]) rfl ?_
  refine dn_putF (a := 13) (j := 9) (j0 := 9) (z := 5) hx hb hts hown hin hK had tco_3 rfl (by decide) (by
      have h9 : ∀ i, i < 9 → 9 ≤ i → (((fks 3)[i]?.map (fun k => decide (k.1 < 2))).getD true) = true := by decide
      intro i kd h1 h2 h3
      have h8 := h9 i h2 h1
      rw [h3] at h8
      simpa using h8) wd_183 rfl rfl (fun _ => rfl) (fun _ => rfl) rfl hP hz hS (by decide) (by decide +kernel) (fun H locs hP hz hS => ?_)
  have hP : va_P D cls (wsD [(4, 8, 4, 0), (1, 400, 1, 0), (0, 4, 0, 0), (0, 6, 0, 0), (1, 401, 0, 0), (1, 401, 0, 0), (1, 401, 0, 0), (0, 3, 0, 0), (1, 8, 0, 0), (1, 96, 0, 0), (1, 20, 0, 0), (1, 48, 0, 0), (1, 9, 0, 0), (4, 3, 10, 0), (1, 8, 0, 0), (1, 96, 0, 0), (1, 20, 0, 0), (1, 48, 0, 0), (1, 9, 0, 0)] cA ad (sR (emS Z0 7) 0 3 7)) H := hP
  have hz : H.size = base + 19 := hz
  have hP := dn_done hP (a := 13) (ci := 3) (j := 10) rfl (by
      have h9 : ∀ i, i < 10 → 10 ≤ i → (((fks 3)[i]?.map (fun k => decide (k.1 < 2))).getD true) = true := by decide
      intro i kd h1 h3
      have h8 := h9 i (List.getElem?_eq_some_iff.mp h3).1 h1
      rw [h3] at h8
      simpa using h8)
  have hP : va_P D cls (wsD [(4, 8, 4, 0), (1, 400, 1, 0), (0, 4, 0, 0), (0, 6, 0, 0), (1, 401, 0, 0), (1, 401, 0, 0), (1, 401, 0, 0), (0, 3, 0, 0), (1, 8, 0, 0), (1, 96, 0, 0), (1, 20, 0, 0), (1, 48, 0, 0), (1, 9, 0, 0), (0, 3, 0, 0), (1, 8, 0, 0), (1, 96, 0, 0), (1, 20, 0, 0), (1, 48, 0, 0), (1, 9, 0, 0)] cA ad (sR (emS Z0 7) 0 3 7)) H := hP
  have hz : H.size = base + 19 := hz
  have hPL : va_P D cls (wsL [(4, 8, 4, 0), (1, 400, 1, 0), (0, 4, 0, 0), (0, 6, 0, 0), (1, 401, 0, 0), (1, 401, 0, 0), (1, 401, 0, 0), (0, 3, 0, 0), (1, 8, 0, 0), (1, 96, 0, 0), (1, 20, 0, 0), (1, 48, 0, 0), (1, 9, 0, 0), (0, 3, 0, 0), (1, 8, 0, 0), (1, 96, 0, 0), (1, 20, 0, 0), (1, 48, 0, 0), (1, 9, 0, 0)] cA ad (sR (emS Z0 7) 0 3 7)) H := hP
  have hDL : va_D (fun q => base ≤ q) (wsL [(4, 8, 4, 0), (1, 400, 1, 0), (0, 4, 0, 0), (0, 6, 0, 0), (1, 401, 0, 0), (1, 401, 0, 0), (1, 401, 0, 0), (0, 3, 0, 0), (1, 8, 0, 0), (1, 96, 0, 0), (1, 20, 0, 0), (1, 48, 0, 0), (1, 9, 0, 0), (0, 3, 0, 0), (1, 8, 0, 0), (1, 96, 0, 0), (1, 20, 0, 0), (1, 48, 0, 0), (1, 9, 0, 0)] cA ad (sR (emS Z0 7) 0 3 7)) := wsD_D had (by decide)
  have hT := TlOk.run (kt_LD_init_13 [(4, 8, 4, 0), (1, 400, 1, 0), (0, 4, 0, 0), (0, 6, 0, 0), (1, 401, 0, 0), (1, 401, 0, 0), (1, 401, 0, 0), (0, 3, 0, 0), (1, 8, 0, 0), (1, 96, 0, 0), (1, 20, 0, 0), (1, 48, 0, 0), (1, 9, 0, 0), (0, 3, 0, 0), (1, 8, 0, 0), (1, 96, 0, 0), (1, 20, 0, 0), (1, 48, 0, 0), (1, 9, 0, 0)]) (p := p) (l := l) (e := e) (R := rmI 2 5 181) (s := s) (m := m) (args := [Value.ref (ad 13)].toArray) (below := below) (meth := meth) (c := c) (D := D) (cA := cA) (ad := ad) (A := fun q => base ≤ q) (ret := none) (cs := 5) (sl := 181) (Qm := MQ below (va_Qv (fun _ : Unit => True) (fun _ t => BI [(4, 8, 4, 0), (1, 400, 1, 0), (0, 4, 0, 0), (0, 6, 0, 0), (1, 401, 0, 0), (1, 401, 0, 0), (1, 401, 0, 0), (0, 3, 0, 0), (1, 8, 0, 0), (1, 96, 0, 0), (1, 20, 0, 0), (1, 48, 0, 0), (1, 9, 0, 0), (0, 3, 0, 0), (1, 8, 0, 0), (1, 96, 0, 0), (1, 20, 0, 0), (1, 48, 0, 0), (1, 9, 0, 0)] D cA ad base (emS (sR (emS Z0 7) 0 3 7) 13) t) (fun q => base ≤ q)) [Value.ref (ad 13)].toArray s 5 181 (fun q => base ≤ q)) (Q := fun _ S9 => S9 = (emS (sR (emS Z0 7) 0 3 7) 13)) (pc := 44) (lo := [(0, .ref 13)]) (st := []) (S := (sR (emS Z0 7) 0 3 7)) ⟨Nat.le_refl _, Nat.le_refl _, Nat.le_refl _, Nat.le_refl _⟩ ⟨hx, hb, hr, hlocks, hml, hown, hts, hK, hXS⟩ (fun S9 pc9 ls H locs hQ hd hP hS => ?_) st_LD_init_13
  · exact hT H _ ls hPL hDL hS hl
  · subst hQ
    refine W_size (fun hsz => ?_)
    have hP : va_P D cls (wsD [(4, 8, 4, 0), (1, 400, 1, 0), (0, 4, 0, 0), (0, 6, 0, 0), (1, 401, 0, 0), (1, 401, 0, 0), (1, 401, 0, 0), (0, 3, 0, 0), (1, 8, 0, 0), (1, 96, 0, 0), (1, 20, 0, 0), (1, 48, 0, 0), (1, 9, 0, 0), (0, 3, 0, 0), (1, 8, 0, 0), (1, 96, 0, 0), (1, 20, 0, 0), (1, 48, 0, 0), (1, 9, 0, 0)] cA ad (emS (sR (emS Z0 7) 0 3 7) 13)) H := hP
    have hlt := (hP 18 _ (wsD_at rfl)).lt
    have hlt2 : ad 18 < H.size := hlt
    rw [had 18 (by decide)] at hlt2
    have hz : H.size = base + 19 := sz_eq hsz hz00 hlt2 rfl
    exact W.vret hx hb hr (fun t ht hW => ⟨⟨(), rfl, trivial, by rw [ht]; exact hz, by rw [ht]; exact hP, va_K.moved hW.alike hK, hXS.next ht hW hS, va_AO.moved hW.alike hAO, hNL.warm hW⟩, hS.F ht⟩) hS.2.2 hd hlocks
set_option maxRecDepth 4000 in
theorem ci_FL_init_19 : ConI ⟨"TurnedRivers$Flow", "<init>", "()V"⟩ prog_4_method_1_code 1 1 12 92 19 [(4, 8, 5, 0), (1, 400, 1, 0), (0, 4, 0, 0), (0, 6, 0, 0), (1, 401, 0, 0), (1, 401, 0, 0), (1, 401, 0, 0), (0, 3, 0, 0), (1, 8, 0, 0), (1, 96, 0, 0), (1, 20, 0, 0), (1, 48, 0, 0), (1, 9, 0, 0), (0, 3, 0, 0), (1, 8, 0, 0), (1, 96, 0, 0), (1, 20, 0, 0), (1, 48, 0, 0), (1, 9, 0, 0), (4, 2, 0, 0)] (sR (emS (sR (emS Z0 7) 0 3 7) 13) 0 4 13) [(4, 8, 5, 0), (1, 400, 1, 0), (0, 4, 0, 0), (0, 6, 0, 0), (1, 401, 0, 0), (1, 401, 0, 0), (1, 401, 0, 0), (0, 3, 0, 0), (1, 8, 0, 0), (1, 96, 0, 0), (1, 20, 0, 0), (1, 48, 0, 0), (1, 9, 0, 0), (0, 3, 0, 0), (1, 8, 0, 0), (1, 96, 0, 0), (1, 20, 0, 0), (1, 48, 0, 0), (1, 9, 0, 0), (0, 2, 0, 0), (1, 8, 0, 0), (1, 8, 0, 0), (1, 8, 0, 0), (1, 8, 0, 0), (1, 8, 0, 0), (1, 8, 0, 0), (1, 8, 0, 0), (1, 4, 0, 0), (1, 8, 0, 0), (1, 8, 0, 0), (1, 8, 0, 0), (1, 8, 0, 0)] (sR (emS (sR (emS Z0 7) 0 3 7) 13) 0 4 13) := by
  intro l D cA ad base had
  refine Met.ofW (cc := prog_4_method_1_code) (maxL := 1) (ret := none) (by decide) rfl ?_
  intro p e s m args below meth c s₁ B hml hv
  obtain ⟨rfl, hz0, hP, hK, hXS, hAO, hNL⟩ := hv
  have hx := B.exec
  have hb := B.bytes
  have hr := B.returns
  have hts0 := atoms_spec (ws := wsM ⟨"TurnedRivers$Flow", "<init>", "()V"⟩ prog_4_method_1_code 1 none) B.pre
  have hts : ∀ w ∈ gw, w.before _ s = true := fun w hw => hts0 w (List.mem_cons_of_mem _ hw)
  have hown : s.vm.findClass "TurnedRivers$Flow" = some m.cls := findClass_of_methodNamed B.named
  have hlocks := B.notSynchronized
  have hin : meth.name = "<init>" := (name_of_methodNamed B.named B.method).1
  have hS : va_S (fun q => base ≤ q) s.heap s.heap [] := va_S.rf
  have hl := lv_entry ([.ref (ad 19)]) (n := 1) (Nat.le_of_ble_eq_true rfl)
  rw [lg_entry_eq]
  generalize (lg_sl ([.ref (ad 19)]) ++ List.replicate (1 - (lg_sl ([.ref (ad 19)])).length) Slot.unset).toArray = ls at hl ⊢
  have hl : lv_has ls 1 [(0, .ref (ad 19))] := hl
  have hz00 : s.heap.size = base + 20 := hz0
  have hz := hz00
  refine lv_aload_n hx hb (by decide +kernel : decode prog_4_method_1_code 0 = .ok (.aload_n 0, 1)) rfl (lv_at hl 0 rfl) ?_
  refine W.objInit hx hb hown (hts _ wd_212) (hts _ wd_103) (hts _ wd_104) rfl (by rw [hml]; exact hl.1) rfl (by decide +kernel : decode prog_4_method_1_code 1 = .ok (.invokespecial 3, 3)) (Nat.le_of_ble_eq_true rfl) (Nat.le_of_ble_eq_true rfl) ?_
  refine W.eq (g2 := F0 m 4 ls []) rfl ?_
  refine lv_aload_n hx hb (by decide +kernel : decode prog_4_method_1_code 4 = .ok (.aload_n 0, 1)) rfl (lv_at hl 0 rfl) ?_
  refine lv_bipush (n := 8) (v := 8) hx hb (by decide +kernel) (by decide) ?_
  refine dn_arr (atype := .int) (ty := .int) (t := 0) (N := 8) (a0 := (8, .inl (fun _ => 0))) (en := (1, 8, 0, 0)) hx hb hts hK had rfl wd_134 rfl (fun _ h => h) (fun _ => rfl) rfl hP hz hS (by decide) (by decide) (by decide) (by decide) (Nat.le_of_ble_eq_true rfl) (Nat.le_of_ble_eq_true rfl) (by decide +kernel) (fun H hP hz hS => ?_)
  have hP : va_P D cls (wsD [(4, 8, 5, 0), (1, 400, 1, 0), (0, 4, 0, 0), (0, 6, 0, 0), (1, 401, 0, 0), (1, 401, 0, 0), (1, 401, 0, 0), (0, 3, 0, 0), (1, 8, 0, 0), (1, 96, 0, 0), (1, 20, 0, 0), (1, 48, 0, 0), (1, 9, 0, 0), (0, 3, 0, 0), (1, 8, 0, 0), (1, 96, 0, 0), (1, 20, 0, 0), (1, 48, 0, 0), (1, 9, 0, 0), (4, 2, 0, 0), (1, 8, 0, 0)] cA ad (sR (emS (sR (emS Z0 7) 0 3 7) 13) 0 4 13)) H := hP
  have hz : H.size = base + 21 := hz
  refine W.eq (g2 := F0 m 9 ls [.ref (ad 20), .ref (ad 19)]) rfl ?_
  refine dn_putF (a := 19) (j := 0) (j0 := 0) (z := 1) hx hb hts hown hin hK had tco_2 rfl (by decide) (by
      have h9 : ∀ i, i < 0 → 0 ≤ i → (((fks 2)[i]?.map (fun k => decide (k.1 < 2))).getD true) = true := by decide
      intro i kd h1 h2 h3
      have h8 := h9 i h2 h1
      rw [h3] at h8
      simpa using h8) wd_213 rfl rfl (fun _ => rfl) (fun _ => rfl) rfl hP hz hS (by decide) (by decide +kernel) (fun H locs hP hz hS => ?_)
  have hP : va_P D cls (wsD [(4, 8, 5, 0), (1, 400, 1, 0), (0, 4, 0, 0), (0, 6, 0, 0), (1, 401, 0, 0), (1, 401, 0, 0), (1, 401, 0, 0), (0, 3, 0, 0), (1, 8, 0, 0), (1, 96, 0, 0), (1, 20, 0, 0), (1, 48, 0, 0), (1, 9, 0, 0), (0, 3, 0, 0), (1, 8, 0, 0), (1, 96, 0, 0), (1, 20, 0, 0), (1, 48, 0, 0), (1, 9, 0, 0), (4, 2, 1, 0), (1, 8, 0, 0)] cA ad (sR (emS (sR (emS Z0 7) 0 3 7) 13) 0 4 13)) H := hP
  have hz : H.size = base + 21 := hz
  refine lv_aload_n hx hb (by decide +kernel : decode prog_4_method_1_code 12 = .ok (.aload_n 0, 1)) rfl (lv_at hl 0 rfl) ?_
  refine lv_bipush (n := 8) (v := 8) hx hb (by decide +kernel) (by decide) ?_
  refine dn_arr (atype := .int) (ty := .int) (t := 0) (N := 8) (a0 := (8, .inl (fun _ => 0))) (en := (1, 8, 0, 0)) hx hb hts hK had rfl wd_134 rfl (fun _ h => h) (fun _ => rfl) rfl hP hz hS (by decide) (by decide) (by decide) (by decide) (Nat.le_of_ble_eq_true rfl) (Nat.le_of_ble_eq_true rfl) (by decide +kernel) (fun H hP hz hS => ?_)
  have hP : va_P D cls (wsD [(4, 8, 5, 0), (1, 400, 1, 0), (0, 4, 0, 0), (0, 6, 0, 0), (1, 401, 0, 0), (1, 401, 0, 0), (1, 401, 0, 0), (0, 3, 0, 0), (1, 8, 0, 0), (1, 96, 0, 0), (1, 20, 0, 0), (1, 48, 0, 0), (1, 9, 0, 0), (0, 3, 0, 0), (1, 8, 0, 0), (1, 96, 0, 0), (1, 20, 0, 0), (1, 48, 0, 0), (1, 9, 0, 0), (4, 2, 1, 0), (1, 8, 0, 0), (1, 8, 0, 0)] cA ad (sR (emS (sR (emS Z0 7) 0 3 7) 13) 0 4 13)) H := hP
  have hz : H.size = base + 22 := hz
  refine W.eq (g2 := F0 m 17 ls [.ref (ad 21), .ref (ad 19)]) rfl ?_
  refine dn_putF (a := 19) (j := 1) (j0 := 1) (z := 2) hx hb hts hown hin hK had tco_2 rfl (by decide) (by
      have h9 : ∀ i, i < 1 → 1 ≤ i → (((fks 2)[i]?.map (fun k => decide (k.1 < 2))).getD true) = true := by decide
      intro i kd h1 h2 h3
      have h8 := h9 i h2 h1
      rw [h3] at h8
      simpa using h8) wd_216 rfl rfl (fun _ => rfl) (fun _ => rfl) rfl hP hz hS (by decide) (by decide +kernel) (fun H locs hP hz hS => ?_)
  have hP : va_P D cls (wsD [(4, 8, 5, 0), (1, 400, 1, 0), (0, 4, 0, 0), (0, 6, 0, 0), (1, 401, 0, 0), (1, 401, 0, 0), (1, 401, 0, 0), (0, 3, 0, 0), (1, 8, 0, 0), (1, 96, 0, 0), (1, 20, 0, 0), (1, 48, 0, 0), (1, 9, 0, 0), (0, 3, 0, 0), (1, 8, 0, 0), (1, 96, 0, 0), (1, 20, 0, 0), (1, 48, 0, 0), (1, 9, 0, 0), (4, 2, 2, 0), (1, 8, 0, 0), (1, 8, 0, 0)] cA ad (sR (emS (sR (emS Z0 7) 0 3 7) 13) 0 4 13)) H := hP
  have hz : H.size = base + 22 := hz
  refine lv_aload_n hx hb (by decide +kernel : decode prog_4_method_1_code 20 = .ok (.aload_n 0, 1)) rfl (lv_at hl 0 rfl) ?_
  refine lv_bipush (n := 8) (v := 8) hx hb (by decide +kernel) (by decide) ?_
  refine dn_arr (atype := .int) (ty := .int) (t := 0) (N := 8) (a0 := (8, .inl (fun _ => 0))) (en := (1, 8, 0, 0)) hx hb hts hK had rfl wd_134 rfl (fun _ h => h) (fun _ => rfl) rfl hP hz hS (by decide) (by decide) (by decide) (by decide) (Nat.le_of_ble_eq_true rfl) (Nat.le_of_ble_eq_true rfl) (by decide +kernel) (fun H hP hz hS => ?_)
  have hP : va_P D cls (wsD [(4, 8, 5, 0), (1, 400, 1, 0), (0, 4, 0, 0), (0, 6, 0, 0), (1, 401, 0, 0), (1, 401, 0, 0), (1, 401, 0, 0), (0, 3, 0, 0), (1, 8, 0, 0), (1, 96, 0, 0), (1, 20, 0, 0), (1, 48, 0, 0), (1, 9, 0, 0), (0, 3, 0, 0), (1, 8, 0, 0), (1, 96, 0, 0), (1, 20, 0, 0), (1, 48, 0, 0), (1, 9, 0, 0), (4, 2, 2, 0), (1, 8, 0, 0), (1, 8, 0, 0), (1, 8, 0, 0)] cA ad (sR (emS (sR (emS Z0 7) 0 3 7) 13) 0 4 13)) H := hP
  have hz : H.size = base + 23 := hz
  refine W.eq (g2 := F0 m 25 ls [.ref (ad 22), .ref (ad 19)]) rfl ?_
  refine dn_putF (a := 19) (j := 4) (j0 := 2) (z := 3) hx hb hts hown hin hK had tco_2 rfl (by decide) (by
      have h9 : ∀ i, i < 4 → 2 ≤ i → (((fks 2)[i]?.map (fun k => decide (k.1 < 2))).getD true) = true := by decide
      intro i kd h1 h2 h3
      have h8 := h9 i h2 h1
      rw [h3] at h8
      simpa using h8) wd_219 rfl rfl (fun _ => rfl) (fun _ => rfl) rfl hP hz hS (by decide) (by decide +kernel) (fun H locs hP hz hS => ?_)
  have hP : va_P D cls (wsD [(4, 8, 5, 0), (1, 400, 1, 0), (0, 4, 0, 0), (0, 6, 0, 0), (1, 401, 0, 0), (1, 401, 0, 0), (1, 401, 0, 0), (0, 3, 0, 0), (1, 8, 0, 0), (1, 96, 0, 0), (1, 20, 0, 0), (1, 48, 0, 0), (1, 9, 0, 0), (0, 3, 0, 0), (1, 8, 0, 0), (1, 96, 0, 0), (1, 20, 0, 0), (1, 48, 0, 0), (1, 9, 0, 0), (4, 2, 5, 0), (1, 8, 0, 0), (1, 8, 0, 0), (1, 8, 0, 0)] cA ad (sR (emS (sR (emS Z0 7) 0 3 7) 13) 0 4 13)) H := hP
  have hz : H.size = base + 23 := hz
  refine lv_aload_n hx hb (by decide +kernel : decode prog_4_method_1_code 28 = .ok (.aload_n 0, 1)) rfl (lv_at hl 0 rfl) ?_
  refine lv_bipush (n := 8) (v := 8) hx hb (by decide +kernel) (by decide) ?_
  refine dn_arr (atype := .int) (ty := .int) (t := 0) (N := 8) (a0 := (8, .inl (fun _ => 0))) (en := (1, 8, 0, 0)) hx hb hts hK had rfl wd_134 rfl (fun _ h => h) (fun _ => rfl) rfl hP hz hS (by decide) (by decide) (by decide) (by decide) (Nat.le_of_ble_eq_true rfl) (Nat.le_of_ble_eq_true rfl) (by decide +kernel) (fun H hP hz hS => ?_)
  have hP : va_P D cls (wsD [(4, 8, 5, 0), (1, 400, 1, 0), (0, 4, 0, 0), (0, 6, 0, 0), (1, 401, 0, 0), (1, 401, 0, 0), (1, 401, 0, 0), (0, 3, 0, 0), (1, 8, 0, 0), (1, 96, 0, 0), (1, 20, 0, 0), (1, 48, 0, 0), (1, 9, 0, 0), (0, 3, 0, 0), (1, 8, 0, 0), (1, 96, 0, 0), (1, 20, 0, 0), (1, 48, 0, 0), (1, 9, 0, 0), (4, 2, 5, 0), (1, 8, 0, 0), (1, 8, 0, 0), (1, 8, 0, 0), (1, 8, 0, 0)] cA ad (sR (emS (sR (emS Z0 7) 0 3 7) 13) 0 4 13)) H := hP
  have hz : H.size = base + 24 := hz
  refine W.eq (g2 := F0 m 33 ls [.ref (ad 23), .ref (ad 19)]) rfl ?_
  refine dn_putF (a := 19) (j := 5) (j0 := 5) (z := 4) hx hb hts hown hin hK had tco_2 rfl (by decide) (by
      have h9 : ∀ i, i < 5 → 5 ≤ i → (((fks 2)[i]?.map (fun k => decide (k.1 < 2))).getD true) = true := by decide
      intro i kd h1 h2 h3
      have h8 := h9 i h2 h1
      rw [h3] at h8
      simpa using h8) wd_220 rfl rfl (fun _ => rfl) (fun _ => rfl) rfl hP hz hS (by decide) (by decide +kernel) (fun H locs hP hz hS => ?_)
  have hP : va_P D cls (wsD [(4, 8, 5, 0), (1, 400, 1, 0), (0, 4, 0, 0), (0, 6, 0, 0), (1, 401, 0, 0), (1, 401, 0, 0), (1, 401, 0, 0), (0, 3, 0, 0), (1, 8, 0, 0), (1, 96, 0, 0), (1, 20, 0, 0), (1, 48, 0, 0), (1, 9, 0, 0), (0, 3, 0, 0), (1, 8, 0, 0), (1, 96, 0, 0), (1, 20, 0, 0), (1, 48, 0, 0), (1, 9, 0, 0), (4, 2, 6, 0), (1, 8, 0, 0), (1, 8, 0, 0), (1, 8, 0, 0), (1, 8, 0, 0)] cA ad (sR (emS (sR (emS Z0 7) 0 3 7) 13) 0 4 13)) H := hP
  have hz : H.size = base + 24 := hz
  refine lv_aload_n hx hb (by decide +kernel : decode prog_4_method_1_code 36 = .ok (.aload_n 0, 1)) rfl (lv_at hl 0 rfl) ?_
  refine lv_bipush (n := 8) (v := 8) hx hb (by decide +kernel) (by decide) ?_
  refine dn_arr (atype := .int) (ty := .int) (t := 0) (N := 8) (a0 := (8, .inl (fun _ => 0))) (en := (1, 8, 0, 0)) hx hb hts hK had rfl wd_134 rfl (fun _ h => h) (fun _ => rfl) rfl hP hz hS (by decide) (by decide) (by decide) (by decide) (Nat.le_of_ble_eq_true rfl) (Nat.le_of_ble_eq_true rfl) (by decide +kernel) (fun H hP hz hS => ?_)
  have hP : va_P D cls (wsD [(4, 8, 5, 0), (1, 400, 1, 0), (0, 4, 0, 0), (0, 6, 0, 0), (1, 401, 0, 0), (1, 401, 0, 0), (1, 401, 0, 0), (0, 3, 0, 0), (1, 8, 0, 0), (1, 96, 0, 0), (1, 20, 0, 0), (1, 48, 0, 0), (1, 9, 0, 0), (0, 3, 0, 0), (1, 8, 0, 0), (1, 96, 0, 0), (1, 20, 0, 0), (1, 48, 0, 0), (1, 9, 0, 0), (4, 2, 6, 0), (1, 8, 0, 0), (1, 8, 0, 0), (1, 8, 0, 0), (1, 8, 0, 0), (1, 8, 0, 0)] cA ad (sR (emS (sR (emS Z0 7) 0 3 7) 13) 0 4 13)) H := hP
  have hz : H.size = base + 25 := hz
  refine W.eq (g2 := F0 m 41 ls [.ref (ad 24), .ref (ad 19)]) rfl ?_
  refine dn_putF (a := 19) (j := 6) (j0 := 6) (z := 5) hx hb hts hown hin hK had tco_2 rfl (by decide) (by
      have h9 : ∀ i, i < 6 → 6 ≤ i → (((fks 2)[i]?.map (fun k => decide (k.1 < 2))).getD true) = true := by decide
      intro i kd h1 h2 h3
      have h8 := h9 i h2 h1
      rw [h3] at h8
      simpa using h8) wd_221 rfl rfl (fun _ => rfl) (fun _ => rfl) rfl hP hz hS (by decide) (by decide +kernel) (fun H locs hP hz hS => ?_)
  have hP : va_P D cls (wsD [(4, 8, 5, 0), (1, 400, 1, 0), (0, 4, 0, 0), (0, 6, 0, 0), (1, 401, 0, 0), (1, 401, 0, 0), (1, 401, 0, 0), (0, 3, 0, 0), (1, 8, 0, 0), (1, 96, 0, 0), (1, 20, 0, 0), (1, 48, 0, 0), (1, 9, 0, 0), (0, 3, 0, 0), (1, 8, 0, 0), (1, 96, 0, 0), (1, 20, 0, 0), (1, 48, 0, 0), (1, 9, 0, 0), (4, 2, 7, 0), (1, 8, 0, 0), (1, 8, 0, 0), (1, 8, 0, 0), (1, 8, 0, 0), (1, 8, 0, 0)] cA ad (sR (emS (sR (emS Z0 7) 0 3 7) 13) 0 4 13)) H := hP
  have hz : H.size = base + 25 := hz
  refine lv_aload_n hx hb (by decide +kernel : decode prog_4_method_1_code 44 = .ok (.aload_n 0, 1)) rfl (lv_at hl 0 rfl) ?_
  refine lv_bipush (n := 8) (v := 8) hx hb (by decide +kernel) (by decide) ?_
  refine dn_arr (atype := .int) (ty := .int) (t := 0) (N := 8) (a0 := (8, .inl (fun _ => 0))) (en := (1, 8, 0, 0)) hx hb hts hK had rfl wd_134 rfl (fun _ h => h) (fun _ => rfl) rfl hP hz hS (by decide) (by decide) (by decide) (by decide) (Nat.le_of_ble_eq_true rfl) (Nat.le_of_ble_eq_true rfl) (by decide +kernel) (fun H hP hz hS => ?_)
  have hP : va_P D cls (wsD [(4, 8, 5, 0), (1, 400, 1, 0), (0, 4, 0, 0), (0, 6, 0, 0), (1, 401, 0, 0), (1, 401, 0, 0), (1, 401, 0, 0), (0, 3, 0, 0), (1, 8, 0, 0), (1, 96, 0, 0), (1, 20, 0, 0), (1, 48, 0, 0), (1, 9, 0, 0), (0, 3, 0, 0), (1, 8, 0, 0), (1, 96, 0, 0), (1, 20, 0, 0), (1, 48, 0, 0), (1, 9, 0, 0), (4, 2, 7, 0), (1, 8, 0, 0), (1, 8, 0, 0), (1, 8, 0, 0), (1, 8, 0, 0), (1, 8, 0, 0), (1, 8, 0, 0)] cA ad (sR (emS (sR (emS Z0 7) 0 3 7) 13) 0 4 13)) H := hP
  have hz : H.size = base + 26 := hz
  refine W.eq (g2 := F0 m 49 ls [.ref (ad 25), .ref (ad 19)]) rfl ?_
  refine dn_putF (a := 19) (j := 7) (j0 := 7) (z := 6) hx hb hts hown hin hK had tco_2 rfl (by decide) (by
      have h9 : ∀ i, i < 7 → 7 ≤ i → (((fks 2)[i]?.map (fun k => decide (k.1 < 2))).getD true) = true := by decide
      intro i kd h1 h2 h3
      have h8 := h9 i h2 h1
      rw [h3] at h8
      simpa using h8) wd_222 rfl rfl (fun _ => rfl) (fun _ => rfl) rfl hP hz hS (by decide) (by decide +kernel) (fun H locs hP hz hS => ?_)
  have hP : va_P D cls (wsD [(4, 8, 5, 0), (1, 400, 1, 0), (0, 4, 0, 0), (0, 6, 0, 0), (1, 401, 0, 0), (1, 401, 0, 0), (1, 401, 0, 0), (0, 3, 0, 0), (1, 8, 0, 0), (1, 96, 0, 0), (1, 20, 0, 0), (1, 48, 0, 0), (1, 9, 0, 0), (0, 3, 0, 0), (1, 8, 0, 0), (1, 96, 0, 0), (1, 20, 0, 0), (1, 48, 0, 0), (1, 9, 0, 0), (4, 2, 8, 0), (1, 8, 0, 0), (1, 8, 0, 0), (1, 8, 0, 0), (1, 8, 0, 0), (1, 8, 0, 0), (1, 8, 0, 0)] cA ad (sR (emS (sR (emS Z0 7) 0 3 7) 13) 0 4 13)) H := hP
  have hz : H.size = base + 26 := hz
  refine lv_aload_n hx hb (by decide +kernel : decode prog_4_method_1_code 52 = .ok (.aload_n 0, 1)) rfl (lv_at hl 0 rfl) ?_
  refine lv_bipush (n := 8) (v := 8) hx hb (by decide +kernel) (by decide) ?_
  refine dn_arr (atype := .int) (ty := .int) (t := 0) (N := 8) (a0 := (8, .inl (fun _ => 0))) (en := (1, 8, 0, 0)) hx hb hts hK had rfl wd_134 rfl (fun _ h => h) (fun _ => rfl) rfl hP hz hS (by decide) (by decide) (by decide) (by decide) (Nat.le_of_ble_eq_true rfl) (Nat.le_of_ble_eq_true rfl) (by decide +kernel) (fun H hP hz hS => ?_)
  have hP : va_P D cls (wsD [(4, 8, 5, 0), (1, 400, 1, 0), (0, 4, 0, 0), (0, 6, 0, 0), (1, 401, 0, 0), (1, 401, 0, 0), (1, 401, 0, 0), (0, 3, 0, 0), (1, 8, 0, 0), (1, 96, 0, 0), (1, 20, 0, 0), (1, 48, 0, 0), (1, 9, 0, 0), (0, 3, 0, 0), (1, 8, 0, 0), (1, 96, 0, 0), (1, 20, 0, 0), (1, 48, 0, 0), (1, 9, 0, 0), (4, 2, 8, 0), (1, 8, 0, 0), (1, 8, 0, 0), (1, 8, 0, 0), (1, 8, 0, 0), (1, 8, 0, 0), (1, 8, 0, 0), (1, 8, 0, 0)] cA ad (sR (emS (sR (emS Z0 7) 0 3 7) 13) 0 4 13)) H := hP
  have hz : H.size = base + 27 := hz
  refine W.eq (g2 := F0 m 57 ls [.ref (ad 26), .ref (ad 19)]) rfl ?_
  refine dn_putF (a := 19) (j := 8) (j0 := 8) (z := 7) hx hb hts hown hin hK had tco_2 rfl (by decide) (by
      have h9 : ∀ i, i < 8 → 8 ≤ i → (((fks 2)[i]?.map (fun k => decide (k.1 < 2))).getD true) = true := by decide
      intro i kd h1 h2 h3
      have h8 := h9 i h2 h1
      rw [h3] at h8
      simpa using h8) wd_223 rfl rfl (fun _ => rfl) (fun _ => rfl) rfl hP hz hS (by decide) (by decide +kernel) (fun H locs hP hz hS => ?_)
  have hP : va_P D cls (wsD [(4, 8, 5, 0), (1, 400, 1, 0), (0, 4, 0, 0), (0, 6, 0, 0), (1, 401, 0, 0), (1, 401, 0, 0), (1, 401, 0, 0), (0, 3, 0, 0), (1, 8, 0, 0), (1, 96, 0, 0), (1, 20, 0, 0), (1, 48, 0, 0), (1, 9, 0, 0), (0, 3, 0, 0), (1, 8, 0, 0), (1, 96, 0, 0), (1, 20, 0, 0), (1, 48, 0, 0), (1, 9, 0, 0), (4, 2, 9, 0), (1, 8, 0, 0), (1, 8, 0, 0), (1, 8, 0, 0), (1, 8, 0, 0), (1, 8, 0, 0), (1, 8, 0, 0), (1, 8, 0, 0)] cA ad (sR (emS (sR (emS Z0 7) 0 3 7) 13) 0 4 13)) H := hP
  have hz : H.size = base + 27 := hz
  refine lv_aload_n hx hb (by decide +kernel : decode prog_4_method_1_code 60 = .ok (.aload_n 0, 1)) rfl (lv_at hl 0 rfl) ?_
  refine lv_iconst (n := 4) (v := 4) hx hb (by decide +kernel) (by decide) ?_
  refine dn_arr (atype := .int) (ty := .int) (t := 0) (N := 4) (a0 := (4, .inl (fun _ => 0))) (en := (1, 4, 0, 0)) hx hb hts hK had rfl wd_134 rfl (fun _ h => h) (fun _ => rfl) rfl hP hz hS (by decide) (by decide) (by decide) (by decide) (Nat.le_of_ble_eq_true rfl) (Nat.le_of_ble_eq_true rfl) (by decide +kernel) (fun H hP hz hS => ?_)
  have hP : va_P D cls (wsD [(4, 8, 5, 0), (1, 400, 1, 0), (0, 4, 0, 0), (0, 6, 0, 0), (1, 401, 0, 0), (1, 401, 0, 0), (1, 401, 0, 0), (0, 3, 0, 0), (1, 8, 0, 0), (1, 96, 0, 0), (1, 20, 0, 0), (1, 48, 0, 0), (1, 9, 0, 0), (0, 3, 0, 0), (1, 8, 0, 0), (1, 96, 0, 0), (1, 20, 0, 0), (1, 48, 0, 0), (1, 9, 0, 0), (4, 2, 9, 0), (1, 8, 0, 0), (1, 8, 0, 0), (1, 8, 0, 0), (1, 8, 0, 0), (1, 8, 0, 0), (1, 8, 0, 0), (1, 8, 0, 0), (1, 4, 0, 0)] cA ad (sR (emS (sR (emS Z0 7) 0 3 7) 13) 0 4 13)) H := hP
  have hz : H.size = base + 28 := hz
  refine W.eq (g2 := F0 m 64 ls [.ref (ad 27), .ref (ad 19)]) rfl ?_
  refine dn_putF (a := 19) (j := 10) (j0 := 9) (z := 8) hx hb hts hown hin hK had tco_2 rfl (by decide) (by
      have h9 : ∀ i, i < 10 → 9 ≤ i → (((fks 2)[i]?.map (fun k => decide (k.1 < 2))).getD true) = true := by decide
      intro i kd h1 h2 h3
      have h8 := h9 i h2 h1
      rw [h3] at h8
      simpa using h8) wd_225 rfl rfl (fun _ => rfl) (fun _ => rfl) rfl hP hz hS (by decide) (by decide +kernel) (fun H locs hP hz hS => ?_)
  have hP : va_P D cls (wsD [(4, 8, 5, 0), (1, 400, 1, 0), (0, 4, 0, 0), (0, 6, 0, 0), (1, 401, 0, 0), (1, 401, 0, 0), (1, 401, 0, 0), (0, 3, 0, 0), (1, 8, 0, 0), (1, 96, 0, 0), (1, 20, 0, 0), (1, 48, 0, 0), (1, 9, 0, 0), (0, 3, 0, 0), (1, 8, 0, 0), (1, 96, 0, 0), (1, 20, 0, 0), (1, 48, 0, 0), (1, 9, 0, 0), (4, 2, 11, 0), (1, 8, 0, 0), (1, 8, 0, 0), (1, 8, 0, 0), (1, 8, 0, 0), (1, 8, 0, 0), (1, 8, 0, 0), (1, 8, 0, 0), (1, 4, 0, 0)] cA ad (sR (emS (sR (emS Z0 7) 0 3 7) 13) 0 4 13)) H := hP
  have hz : H.size = base + 28 := hz
  refine lv_aload_n hx hb (by decide +kernel : decode prog_4_method_1_code 67 = .ok (.aload_n 0, 1)) rfl (lv_at hl 0 rfl) ?_
  refine lv_bipush (n := 8) (v := 8) hx hb (by decide +kernel) (by decide) ?_
  refine dn_arr (atype := .int) (ty := .int) (t := 0) (N := 8) (a0 := (8, .inl (fun _ => 0))) (en := (1, 8, 0, 0)) hx hb hts hK had rfl wd_134 rfl (fun _ h => h) (fun _ => rfl) rfl hP hz hS (by decide) (by decide) (by decide) (by decide) (Nat.le_of_ble_eq_true rfl) (Nat.le_of_ble_eq_true rfl) (by decide +kernel) (fun H hP hz hS => ?_)
  have hP : va_P D cls (wsD [(4, 8, 5, 0), (1, 400, 1, 0), (0, 4, 0, 0), (0, 6, 0, 0), (1, 401, 0, 0), (1, 401, 0, 0), (1, 401, 0, 0), (0, 3, 0, 0), (1, 8, 0, 0), (1, 96, 0, 0), (1, 20, 0, 0), (1, 48, 0, 0), (1, 9, 0, 0), (0, 3, 0, 0), (1, 8, 0, 0), (1, 96, 0, 0), (1, 20, 0, 0), (1, 48, 0, 0), (1, 9, 0, 0), (4, 2, 11, 0), (1, 8, 0, 0), (1, 8, 0, 0), (1, 8, 0, 0), (1, 8, 0, 0), (1, 8, 0, 0), (1, 8, 0, 0), (1, 8, 0, 0), (1, 4, 0, 0), (1, 8, 0, 0)] cA ad (sR (emS (sR (emS Z0 7) 0 3 7) 13) 0 4 13)) H := hP
  have hz : H.size = base + 29 := hz
  refine W.eq (g2 := F0 m 72 ls [.ref (ad 28), .ref (ad 19)]) rfl ?_
  refine dn_putF (a := 19) (j := 11) (j0 := 11) (z := 9) hx hb hts hown hin hK had tco_2 rfl (by decide) (by
      have h9 : ∀ i, i < 11 → 11 ≤ i → (((fks 2)[i]?.map (fun k => decide (k.1 < 2))).getD true) = true := by decide
      intro i kd h1 h2 h3
      have h8 := h9 i h2 h1
      rw [h3] at h8
      simpa using h8) wd_226 rfl rfl (fun _ => rfl) (fun _ => rfl) rfl hP hz hS (by decide) (by decide +kernel) (fun H locs hP hz hS => ?_)
  have hP : va_P D cls (wsD [(4, 8, 5, 0), (1, 400, 1, 0), (0, 4, 0, 0), (0, 6, 0, 0), (1, 401, 0, 0), (1, 401, 0, 0), (1, 401, 0, 0), (0, 3, 0, 0), (1, 8, 0, 0), (1, 96, 0, 0), (1, 20, 0, 0), (1, 48, 0, 0), (1, 9, 0, 0), (0, 3, 0, 0), (1, 8, 0, 0), (1, 96, 0, 0), (1, 20, 0, 0), (1, 48, 0, 0), (1, 9, 0, 0), (4, 2, 12, 0), (1, 8, 0, 0), (1, 8, 0, 0), (1, 8, 0, 0), (1, 8, 0, 0), (1, 8, 0, 0), (1, 8, 0, 0), (1, 8, 0, 0), (1, 4, 0, 0), (1, 8, 0, 0)] cA ad (sR (emS (sR (emS Z0 7) 0 3 7) 13) 0 4 13)) H := hP
  have hz : H.size = base + 29 := hz
  refine lv_aload_n hx hb (by decide +kernel : decode prog_4_method_1_code 75 = .ok (.aload_n 0, 1)) rfl (lv_at hl 0 rfl) ?_
  refine lv_bipush (n := 8) (v := 8) hx hb (by decide +kernel) (by decide) ?_
  refine dn_arr (atype := .int) (ty := .int) (t := 0) (N := 8) (a0 := (8, .inl (fun _ => 0))) (en := (1, 8, 0, 0)) hx hb hts hK had rfl wd_134 rfl (fun _ h => h) (fun _ => rfl) rfl hP hz hS (by decide) (by decide) (by decide) (by decide) (Nat.le_of_ble_eq_true rfl) (Nat.le_of_ble_eq_true rfl) (by decide +kernel) (fun H hP hz hS => ?_)
  have hP : va_P D cls (wsD [(4, 8, 5, 0), (1, 400, 1, 0), (0, 4, 0, 0), (0, 6, 0, 0), (1, 401, 0, 0), (1, 401, 0, 0), (1, 401, 0, 0), (0, 3, 0, 0), (1, 8, 0, 0), (1, 96, 0, 0), (1, 20, 0, 0), (1, 48, 0, 0), (1, 9, 0, 0), (0, 3, 0, 0), (1, 8, 0, 0), (1, 96, 0, 0), (1, 20, 0, 0), (1, 48, 0, 0), (1, 9, 0, 0), (4, 2, 12, 0), (1, 8, 0, 0), (1, 8, 0, 0), (1, 8, 0, 0), (1, 8, 0, 0), (1, 8, 0, 0), (1, 8, 0, 0), (1, 8, 0, 0), (1, 4, 0, 0), (1, 8, 0, 0), (1, 8, 0, 0)] cA ad (sR (emS (sR (emS Z0 7) 0 3 7) 13) 0 4 13)) H := hP
  have hz : H.size = base + 30 := hz
  refine W.eq (g2 := F0 m 80 ls [.ref (ad 29), .ref (ad 19)]) rfl ?_
  refine dn_putF (a := 19) (j := 12) (j0 := 12) (z := 10) hx hb hts hown hin hK had tco_2 rfl (by decide) (by
      have h9 : ∀ i, i < 12 → 12 ≤ i → (((fks 2)[i]?.map (fun k => decide (k.1 < 2))).getD true) = true := by decide
      intro i kd h1 h2 h3
      have h8 := h9 i h2 h1
      rw [h3] at h8
      simpa using h8) wd_227 rfl rfl (fun _ => rfl) (fun _ => rfl) rfl hP hz hS (by decide) (by decide +kernel) (fun H locs hP hz hS => ?_)
  have hP : va_P D cls (wsD [(4, 8, 5, 0), (1, 400, 1, 0), (0, 4, 0, 0), (0, 6, 0, 0), (1, 401, 0, 0), (1, 401, 0, 0), (1, 401, 0, 0), (0, 3, 0, 0), (1, 8, 0, 0), (1, 96, 0, 0), (1, 20, 0, 0), (1, 48, 0, 0), (1, 9, 0, 0), (0, 3, 0, 0), (1, 8, 0, 0), (1, 96, 0, 0), (1, 20, 0, 0), (1, 48, 0, 0), (1, 9, 0, 0), (4, 2, 13, 0), (1, 8, 0, 0), (1, 8, 0, 0), (1, 8, 0, 0), (1, 8, 0, 0), (1, 8, 0, 0), (1, 8, 0, 0), (1, 8, 0, 0), (1, 4, 0, 0), (1, 8, 0, 0), (1, 8, 0, 0)] cA ad (sR (emS (sR (emS Z0 7) 0 3 7) 13) 0 4 13)) H := hP
  have hz : H.size = base + 30 := hz
  refine lv_aload_n hx hb (by decide +kernel : decode prog_4_method_1_code 83 = .ok (.aload_n 0, 1)) rfl (lv_at hl 0 rfl) ?_
  refine lv_bipush (n := 8) (v := 8) hx hb (by decide +kernel) (by decide) ?_
  refine dn_arr (atype := .int) (ty := .int) (t := 0) (N := 8) (a0 := (8, .inl (fun _ => 0))) (en := (1, 8, 0, 0)) hx hb hts hK had rfl wd_134 rfl (fun _ h => h) (fun _ => rfl) rfl hP hz hS (by decide) (by decide) (by decide) (by decide) (Nat.le_of_ble_eq_true rfl) (Nat.le_of_ble_eq_true rfl) (by decide +kernel) (fun H hP hz hS => ?_)
  have hP : va_P D cls (wsD [(4, 8, 5, 0), (1, 400, 1, 0), (0, 4, 0, 0), (0, 6, 0, 0), (1, 401, 0, 0), (1, 401, 0, 0), (1, 401, 0, 0), (0, 3, 0, 0), (1, 8, 0, 0), (1, 96, 0, 0), (1, 20, 0, 0), (1, 48, 0, 0), (1, 9, 0, 0), (0, 3, 0, 0), (1, 8, 0, 0), (1, 96, 0, 0), (1, 20, 0, 0), (1, 48, 0, 0), (1, 9, 0, 0), (4, 2, 13, 0), (1, 8, 0, 0), (1, 8, 0, 0), (1, 8, 0, 0), (1, 8, 0, 0), (1, 8, 0, 0), (1, 8, 0, 0), (1, 8, 0, 0), (1, 4, 0, 0), (1, 8, 0, 0), (1, 8, 0, 0), (1, 8, 0, 0)] cA ad (sR (emS (sR (emS Z0 7) 0 3 7) 13) 0 4 13)) H := hP
  have hz : H.size = base + 31 := hz
  refine W.eq (g2 := F0 m 88 ls [.ref (ad 30), .ref (ad 19)]) rfl ?_
  refine dn_putF (a := 19) (j := 13) (j0 := 13) (z := 11) hx hb hts hown hin hK had tco_2 rfl (by decide) (by
      have h9 : ∀ i, i < 13 → 13 ≤ i → (((fks 2)[i]?.map (fun k => decide (k.1 < 2))).getD true) = true := by decide
      intro i kd h1 h2 h3
      have h8 := h9 i h2 h1
      rw [h3] at h8
      simpa using h8) wd_228 rfl rfl (fun _ => rfl) (fun _ => rfl) rfl hP hz hS (by decide) (by decide +kernel) (fun H locs hP hz hS => ?_)
  have hP : va_P D cls (wsD [(4, 8, 5, 0), (1, 400, 1, 0), (0, 4, 0, 0), (0, 6, 0, 0), (1, 401, 0, 0), (1, 401, 0, 0), (1, 401, 0, 0), (0, 3, 0, 0), (1, 8, 0, 0), (1, 96, 0, 0), (1, 20, 0, 0), (1, 48, 0, 0), (1, 9, 0, 0), (0, 3, 0, 0), (1, 8, 0, 0), (1, 96, 0, 0), (1, 20, 0, 0), (1, 48, 0, 0), (1, 9, 0, 0), (4, 2, 14, 0), (1, 8, 0, 0), (1, 8, 0, 0), (1, 8, 0, 0), (1, 8, 0, 0), (1, 8, 0, 0), (1, 8, 0, 0), (1, 8, 0, 0), (1, 4, 0, 0), (1, 8, 0, 0), (1, 8, 0, 0), (1, 8, 0, 0)] cA ad (sR (emS (sR (emS Z0 7) 0 3 7) 13) 0 4 13)) H := hP
  have hz : H.size = base + 31 := hz
  refine lv_aload_n hx hb (by decide +kernel : decode prog_4_method_1_code 91 = .ok (.aload_n 0, 1)) rfl (lv_at hl 0 rfl) ?_
  refine lv_bipush (n := 8) (v := 8) hx hb (by decide +kernel) (by decide) ?_
  refine dn_arr (atype := .int) (ty := .int) (t := 0) (N := 8) (a0 := (8, .inl (fun _ => 0))) (en := (1, 8, 0, 0)) hx hb hts hK had rfl wd_134 rfl (fun _ h => h) (fun _ => rfl) rfl hP hz hS (by decide) (by decide) (by decide) (by decide) (Nat.le_of_ble_eq_true rfl) (Nat.le_of_ble_eq_true rfl) (by decide +kernel) (fun H hP hz hS => ?_)
  have hP : va_P D cls (wsD [(4, 8, 5, 0), (1, 400, 1, 0), (0, 4, 0, 0), (0, 6, 0, 0), (1, 401, 0, 0), (1, 401, 0, 0), (1, 401, 0, 0), (0, 3, 0, 0), (1, 8, 0, 0), (1, 96, 0, 0), (1, 20, 0, 0), (1, 48, 0, 0), (1, 9, 0, 0), (0, 3, 0, 0), (1, 8, 0, 0), (1, 96, 0, 0), (1, 20, 0, 0), (1, 48, 0, 0), (1, 9, 0, 0), (4, 2, 14, 0), (1, 8, 0, 0), (1, 8, 0, 0), (1, 8, 0, 0), (1, 8, 0, 0), (1, 8, 0, 0), (1, 8, 0, 0), (1, 8, 0, 0), (1, 4, 0, 0), (1, 8, 0, 0), (1, 8, 0, 0), (1, 8, 0, 0), (1, 8, 0, 0)] cA ad (sR (emS (sR (emS Z0 7) 0 3 7) 13) 0 4 13)) H := hP
  have hz : H.size = base + 32 := hz
  refine W.eq (g2 := F0 m 96 ls [.ref (ad 31), .ref (ad 19)]) rfl ?_
  refine dn_putF (a := 19) (j := 14) (j0 := 14) (z := 12) hx hb hts hown hin hK had tco_2 rfl (by decide) (by
      have h9 : ∀ i, i < 14 → 14 ≤ i → (((fks 2)[i]?.map (fun k => decide (k.1 < 2))).getD true) = true := by decide
      intro i kd h1 h2 h3
      have h8 := h9 i h2 h1
      rw [h3] at h8
      simpa using h8) wd_229 rfl rfl (fun _ => rfl) (fun _ => rfl) rfl hP hz hS (by decide) (by decide +kernel) (fun H locs hP hz hS => ?_)
  have hP : va_P D cls (wsD [(4, 8, 5, 0), (1, 400, 1, 0), (0, 4, 0, 0), (0, 6, 0, 0), (1, 401, 0, 0), (1, 401, 0, 0), (1, 401, 0, 0), (0, 3, 0, 0), (1, 8, 0, 0), (1, 96, 0, 0), (1, 20, 0, 0), (1, 48, 0, 0), (1, 9, 0, 0), (0, 3, 0, 0), (1, 8, 0, 0), (1, 96, 0, 0), (1, 20, 0, 0), (1, 48, 0, 0), (1, 9, 0, 0), (4, 2, 15, 0), (1, 8, 0, 0), (1, 8, 0, 0), (1, 8, 0, 0), (1, 8, 0, 0), (1, 8, 0, 0), (1, 8, 0, 0), (1, 8, 0, 0), (1, 4, 0, 0), (1, 8, 0, 0), (1, 8, 0, 0), (1, 8, 0, 0), (1, 8, 0, 0)] cA ad (sR (emS (sR (emS Z0 7) 0 3 7) 13) 0 4 13)) H := hP
  have hz : H.size = base + 32 := hz
  have hP := dn_done hP (a := 19) (ci := 2) (j := 15) rfl (by
      have h9 : ∀ i, i < 15 → 15 ≤ i → (((fks 2)[i]?.map (fun k => decide (k.1 < 2))).getD true) = true := by decide
      intro i kd h1 h3
      have h8 := h9 i (List.getElem?_eq_some_iff.mp h3).1 h1
      rw [h3] at h8
      simpa using h8)
  have hP : va_P D cls (wsD [(4, 8, 5, 0), (1, 400, 1, 0), (0, 4, 0, 0), (0, 6, 0, 0), (1, 401, 0, 0), (1, 401, 0, 0), (1, 401, 0, 0), (0, 3, 0, 0), (1, 8, 0, 0), (1, 96, 0, 0), (1, 20, 0, 0), (1, 48, 0, 0), (1, 9, 0, 0), (0, 3, 0, 0), (1, 8, 0, 0), (1, 96, 0, 0), (1, 20, 0, 0), (1, 48, 0, 0), (1, 9, 0, 0), (0, 2, 0, 0), (1, 8, 0, 0), (1, 8, 0, 0), (1, 8, 0, 0), (1, 8, 0, 0), (1, 8, 0, 0), (1, 8, 0, 0), (1, 8, 0, 0), (1, 4, 0, 0), (1, 8, 0, 0), (1, 8, 0, 0), (1, 8, 0, 0), (1, 8, 0, 0)] cA ad (sR (emS (sR (emS Z0 7) 0 3 7) 13) 0 4 13)) H := hP
  have hz : H.size = base + 32 := hz
  exact W.vret hx hb hr (fun t ht hW => ⟨⟨(), rfl, trivial, by rw [ht]; exact hz, by rw [ht]; exact hP, va_K.moved hW.alike hK, hXS.next ht hW hS, va_AO.moved hW.alike hAO, hNL.warm hW⟩, hS.F ht⟩) hS.2.2 (by decide +kernel) hlocks
def PT_YR_init_32 (lay : List Ent) : Prg := [
  (27, sq (o_ald 0) <| sq (o_cv lay (F_YR_forget lay) 0 7) <| t_vret)]
theorem kt_YR_init_32 (lay : List Ent) : TlOk lay prog_9_method_1_code 1 "TurnedRivers$Years" 2 (PT_YR_init_32 lay) := TlOk.cons (OSx.cons (s_ald_n (j := 0) (by decide +kernel) rfl) <| OSx.cons (s_cv (c_YR_forget lay) (m_YR_forget lay) tco_7 (by decide) wd_267 wd_268 wd_269 wd_85 wd_270 (by decide +kernel) (by decide +kernel)) <| OSx.ret (by decide +kernel)) TlOk.nil
theorem st_YR_init_32 : Rn (PT_YR_init_32 [(4, 8, 6, 0), (1, 400, 1, 0), (0, 4, 0, 0), (0, 6, 0, 0), (1, 401, 0, 0), (1, 401, 0, 0), (1, 401, 0, 0), (0, 3, 0, 0), (1, 8, 0, 0), (1, 96, 0, 0), (1, 20, 0, 0), (1, 48, 0, 0), (1, 9, 0, 0), (0, 3, 0, 0), (1, 8, 0, 0), (1, 96, 0, 0), (1, 20, 0, 0), (1, 48, 0, 0), (1, 9, 0, 0), (0, 2, 0, 0), (1, 8, 0, 0), (1, 8, 0, 0), (1, 8, 0, 0), (1, 8, 0, 0), (1, 8, 0, 0), (1, 8, 0, 0), (1, 8, 0, 0), (1, 4, 0, 0), (1, 8, 0, 0), (1, 8, 0, 0), (1, 8, 0, 0), (1, 8, 0, 0), (0, 7, 0, 0), (1, 768, 0, 0), (2, 3, 0, 0), (2, 3, 0, 0)]) (fun _ S9 => S9 = (fgS (sR (emS (sR (emS Z0 7) 0 3 7) 13) 0 4 13) 32)) 27 [(0, .ref 32)] [] (sR (emS (sR (emS Z0 7) 0 3 7) 13) 0 4 13) := by
  refine TlOk.go (kt_YR_init_32 [(4, 8, 6, 0), (1, 400, 1, 0), (0, 4, 0, 0), (0, 6, 0, 0), (1, 401, 0, 0), (1, 401, 0, 0), (1, 401, 0, 0), (0, 3, 0, 0), (1, 8, 0, 0), (1, 96, 0, 0), (1, 20, 0, 0), (1, 48, 0, 0), (1, 9, 0, 0), (0, 3, 0, 0), (1, 8, 0, 0), (1, 96, 0, 0), (1, 20, 0, 0), (1, 48, 0, 0), (1, 9, 0, 0), (0, 2, 0, 0), (1, 8, 0, 0), (1, 8, 0, 0), (1, 8, 0, 0), (1, 8, 0, 0), (1, 8, 0, 0), (1, 8, 0, 0), (1, 8, 0, 0), (1, 4, 0, 0), (1, 8, 0, 0), (1, 8, 0, 0), (1, 8, 0, 0), (1, 8, 0, 0), (0, 7, 0, 0), (1, 768, 0, 0), (2, 3, 0, 0), (2, 3, 0, 0)]) rfl ?_
  simp only [sq, o_push, o_ild, o_lld, o_ald, o_ist, o_lst, o_ast, o_iinc, o_ib, o_idiv, o_irem, o_lb, o_lsh, o_iu, o_i2l, o_l2i, o_dup, o_dup2, o_pop, t_go, t_if1, t_if2, t_iret, t_zret, t_lret, t_vret, t_sw, o_gI, o_gL, o_gC, o_gR, o_pI, o_pL, o_pR, o_aget, o_lget, o_aput, o_bput, o_zput, o_lput, o_rget, o_alen, o_llen, o_cv, o_cs, o_max, o_min, o_cpI, o_cpL, o_ldS, o_gSv, o_gSc, o_gCS, o_sLen, o_sGet, o_cvS, o_gFm, lset, lsetL, ins, keepL, kpl, List.lookup_cons, List.filter_cons, List.filter_nil, List.contains_cons, List.contains_nil, List.take_succ_cons, List.take_zero, List.drop_succ_cons, List.drop_zero, List.reverse_cons, List.reverse_nil, List.nil_append, List.cons_append, List.map_cons, List.map_nil, List.sum_cons, List.sum_nil, List.length_cons, List.length_nil, Value.category, Option.toList_some, Option.toList_none, Nat.reduceBEq, Nat.reduceLT, Nat.reduceLeDiff, Nat.reduceAdd, Nat.reduceMul, Nat.reduceEqDiff, beq_self_eq_true, Bool.not_true, Bool.not_false, Bool.and_true, Bool.and_false, Bool.true_and, Bool.false_and, Bool.or_true, Bool.true_or, Bool.or_false, Bool.false_or, if_true, if_false, Bool.false_eq_true, reduceIte, Bool.not_eq_true, Nat.zero_add, true_and, and_true, Nat.le_refl, List.all_cons, List.forall_mem_cons, lv_args, lw_0, lw_1, la_1, lw_2, lw_3, lw_4, la_4, lw_5, la_5, lw_6, la_6, lw_7, lw_8, la_8, lw_9, la_9, lw_10, la_10, lw_11, la_11, lw_12, la_12, lw_13, lw_14, la_14, lw_15, la_15, lw_16, la_16, lw_17, la_17, lw_18, la_18, lw_19, lw_20, la_20, lw_21, la_21, lw_22, la_22, lw_23, la_23, lw_24, la_24, lw_25, la_25, lw_26, la_26, lw_27, la_27, lw_28, la_28, lw_29, la_29, lw_30, la_30, lw_31, la_31, lw_32, lw_33, la_33, lw_34, la_34, lw_35, la_35, lw_36, lw_37, la_37, lw_38, la_38, lw_39, lw_40, la_40, lw_41, la_41, lw_42, la_42, lw_43, lw_44, la_44, lw_45, la_45, lw_46, la_46, lw_47, lw_48, la_48, lw_49, lw_50, la_50, lw_51, la_51, lw_52, la_52, lw_53, lw_54, la_54, lw_55, la_55, lw_56, la_56, lw_57, lw_58, la_58, lw_59, la_59, lw_60, la_60, lw_61, la_61, lw_62, la_62, lw_63, la_63, lw_64, la_64, lw_65, la_65, lw_66, la_66, lw_67, la_67, lw_68, la_68, lw_69, la_69, lw_70, la_70, lw_71, la_71, lw_72, la_72, lw_73, la_73, lw_74, la_74, lw_75, la_75, lw_76, la_76, lw_77, la_77, lw_78, la_78, lw_79, la_79, lw_80, la_80, lw_81, la_81, lw_82, la_82, lw_83, la_83, lw_84, la_84, lw_85, la_85, lw_86, la_86]
  refine ⟨rfl, ?_⟩
  refine sp_YR_forget rfl rfl ?_
  simp only [sq, o_push, o_ild, o_lld, o_ald, o_ist, o_lst, o_ast, o_iinc, o_ib, o_idiv, o_irem, o_lb, o_lsh, o_iu, o_i2l, o_l2i, o_dup, o_dup2, o_pop, t_go, t_if1, t_if2, t_iret, t_zret, t_lret, t_vret, t_sw, o_gI, o_gL, o_gC, o_gR, o_pI, o_pL, o_pR, o_aget, o_lget, o_aput, o_bput, o_zput, o_lput, o_rget, o_alen, o_llen, o_cv, o_cs, o_max, o_min, o_cpI, o_cpL, o_ldS, o_gSv, o_gSc, o_gCS, o_sLen, o_sGet, o_cvS, o_gFm, lset, lsetL, ins, keepL, kpl, List.lookup_cons, List.filter_cons, List.filter_nil, List.contains_cons, List.contains_nil, List.take_succ_cons, List.take_zero, List.drop_succ_cons, List.drop_zero, List.reverse_cons, List.reverse_nil, List.nil_append, List.cons_append, List.map_cons, List.map_nil, List.sum_cons, List.sum_nil, List.length_cons, List.length_nil, Value.category, Option.toList_some, Option.toList_none, Nat.reduceBEq, Nat.reduceLT, Nat.reduceLeDiff, Nat.reduceAdd, Nat.reduceMul, Nat.reduceEqDiff, beq_self_eq_true, Bool.not_true, Bool.not_false, Bool.and_true, Bool.and_false, Bool.true_and, Bool.false_and, Bool.or_true, Bool.true_or, Bool.or_false, Bool.false_or, if_true, if_false, Bool.false_eq_true, reduceIte, Bool.not_eq_true, Nat.zero_add, true_and, and_true, Nat.le_refl, List.all_cons, List.forall_mem_cons, lv_args, lw_0, lw_1, la_1, lw_2, lw_3, lw_4, la_4, lw_5, la_5, lw_6, la_6, lw_7, lw_8, la_8, lw_9, la_9, lw_10, la_10, lw_11, la_11, lw_12, la_12, lw_13, lw_14, la_14, lw_15, la_15, lw_16, la_16, lw_17, la_17, lw_18, la_18, lw_19, lw_20, la_20, lw_21, la_21, lw_22, la_22, lw_23, la_23, lw_24, la_24, lw_25, la_25, lw_26, la_26, lw_27, la_27, lw_28, la_28, lw_29, la_29, lw_30, la_30, lw_31, la_31, lw_32, lw_33, la_33, lw_34, la_34, lw_35, la_35, lw_36, lw_37, la_37, lw_38, la_38, lw_39, lw_40, la_40, lw_41, la_41, lw_42, la_42, lw_43, lw_44, la_44, lw_45, la_45, lw_46, la_46, lw_47, lw_48, la_48, lw_49, lw_50, la_50, lw_51, la_51, lw_52, la_52, lw_53, lw_54, la_54, lw_55, la_55, lw_56, la_56, lw_57, lw_58, la_58, lw_59, la_59, lw_60, la_60, lw_61, la_61, lw_62, la_62, lw_63, la_63, lw_64, la_64, lw_65, la_65, lw_66, la_66, lw_67, la_67, lw_68, la_68, lw_69, la_69, lw_70, la_70, lw_71, la_71, lw_72, la_72, lw_73, la_73, lw_74, la_74, lw_75, la_75, lw_76, la_76, lw_77, la_77, lw_78, la_78, lw_79, la_79, lw_80, la_80, lw_81, la_81, lw_82, la_82, lw_83, la_83, lw_84, la_84, lw_85, la_85, lw_86, la_86]
  rfl
set_option maxRecDepth 4000 in
theorem ci_YR_init_32 : ConI ⟨"TurnedRivers$Years", "<init>", "()V"⟩ prog_9_method_1_code 1 2 3 774 32 [(4, 8, 6, 0), (1, 400, 1, 0), (0, 4, 0, 0), (0, 6, 0, 0), (1, 401, 0, 0), (1, 401, 0, 0), (1, 401, 0, 0), (0, 3, 0, 0), (1, 8, 0, 0), (1, 96, 0, 0), (1, 20, 0, 0), (1, 48, 0, 0), (1, 9, 0, 0), (0, 3, 0, 0), (1, 8, 0, 0), (1, 96, 0, 0), (1, 20, 0, 0), (1, 48, 0, 0), (1, 9, 0, 0), (0, 2, 0, 0), (1, 8, 0, 0), (1, 8, 0, 0), (1, 8, 0, 0), (1, 8, 0, 0), (1, 8, 0, 0), (1, 8, 0, 0), (1, 8, 0, 0), (1, 4, 0, 0), (1, 8, 0, 0), (1, 8, 0, 0), (1, 8, 0, 0), (1, 8, 0, 0), (4, 7, 0, 0)] (sR (emS (sR (emS Z0 7) 0 3 7) 13) 0 4 13) [(4, 8, 6, 0), (1, 400, 1, 0), (0, 4, 0, 0), (0, 6, 0, 0), (1, 401, 0, 0), (1, 401, 0, 0), (1, 401, 0, 0), (0, 3, 0, 0), (1, 8, 0, 0), (1, 96, 0, 0), (1, 20, 0, 0), (1, 48, 0, 0), (1, 9, 0, 0), (0, 3, 0, 0), (1, 8, 0, 0), (1, 96, 0, 0), (1, 20, 0, 0), (1, 48, 0, 0), (1, 9, 0, 0), (0, 2, 0, 0), (1, 8, 0, 0), (1, 8, 0, 0), (1, 8, 0, 0), (1, 8, 0, 0), (1, 8, 0, 0), (1, 8, 0, 0), (1, 8, 0, 0), (1, 4, 0, 0), (1, 8, 0, 0), (1, 8, 0, 0), (1, 8, 0, 0), (1, 8, 0, 0), (0, 7, 0, 0), (1, 768, 0, 0), (2, 3, 0, 0), (2, 3, 0, 0)] (fgS (sR (emS (sR (emS Z0 7) 0 3 7) 13) 0 4 13) 32) := by
  intro l D cA ad base had
  refine Met.ofW (cc := prog_9_method_1_code) (maxL := 1) (ret := none) (by decide) rfl ?_
  intro p e s m args below meth c s₁ B hml hv
  obtain ⟨rfl, hz0, hP, hK, hXS, hAO, hNL⟩ := hv
  have hx := B.exec
  have hb := B.bytes
  have hr := B.returns
  have hts0 := atoms_spec (ws := wsM ⟨"TurnedRivers$Years", "<init>", "()V"⟩ prog_9_method_1_code 1 none) B.pre
  have hts : ∀ w ∈ gw, w.before _ s = true := fun w hw => hts0 w (List.mem_cons_of_mem _ hw)
  have hown : s.vm.findClass "TurnedRivers$Years" = some m.cls := findClass_of_methodNamed B.named
  have hlocks := B.notSynchronized
  have hin : meth.name = "<init>" := (name_of_methodNamed B.named B.method).1
  have hS : va_S (fun q => base ≤ q) s.heap s.heap [] := va_S.rf
  have hl := lv_entry ([.ref (ad 32)]) (n := 1) (Nat.le_of_ble_eq_true rfl)
  rw [lg_entry_eq]
  generalize (lg_sl ([.ref (ad 32)]) ++ List.replicate (1 - (lg_sl ([.ref (ad 32)])).length) Slot.unset).toArray = ls at hl ⊢
  have hl : lv_has ls 1 [(0, .ref (ad 32))] := hl
  have hz00 : s.heap.size = base + 33 := hz0
  have hz := hz00
  refine lv_aload_n hx hb (by decide +kernel : decode prog_9_method_1_code 0 = .ok (.aload_n 0, 1)) rfl (lv_at hl 0 rfl) ?_
  refine W.objInit hx hb hown (hts _ wd_266) (hts _ wd_103) (hts _ wd_104) rfl (by rw [hml]; exact hl.1) rfl (by decide +kernel : decode prog_9_method_1_code 1 = .ok (.invokespecial 3, 3)) (Nat.le_of_ble_eq_true rfl) (Nat.le_of_ble_eq_true rfl) ?_
  refine W.eq (g2 := F0 m 4 ls []) rfl ?_
  refine lv_aload_n hx hb (by decide +kernel : decode prog_9_method_1_code 4 = .ok (.aload_n 0, 1)) rfl (lv_at hl 0 rfl) ?_
  refine lv_sipush (n := 768) (v := 768) hx hb (by decide +kernel) (by decide) ?_
  refine dn_arr (atype := .int) (ty := .int) (t := 0) (N := 768) (a0 := (768, .inl (fun _ => 0))) (en := (1, 768, 0, 0)) hx hb hts hK had rfl wd_134 rfl (fun _ h => h) (fun _ => rfl) rfl hP hz hS (by decide) (by decide) (by decide) (by decide) (Nat.le_of_ble_eq_true rfl) (Nat.le_of_ble_eq_true rfl) (by decide +kernel) (fun H hP hz hS => ?_)
  have hP : va_P D cls (wsD [(4, 8, 6, 0), (1, 400, 1, 0), (0, 4, 0, 0), (0, 6, 0, 0), (1, 401, 0, 0), (1, 401, 0, 0), (1, 401, 0, 0), (0, 3, 0, 0), (1, 8, 0, 0), (1, 96, 0, 0), (1, 20, 0, 0), (1, 48, 0, 0), (1, 9, 0, 0), (0, 3, 0, 0), (1, 8, 0, 0), (1, 96, 0, 0), (1, 20, 0, 0), (1, 48, 0, 0), (1, 9, 0, 0), (0, 2, 0, 0), (1, 8, 0, 0), (1, 8, 0, 0), (1, 8, 0, 0), (1, 8, 0, 0), (1, 8, 0, 0), (1, 8, 0, 0), (1, 8, 0, 0), (1, 4, 0, 0), (1, 8, 0, 0), (1, 8, 0, 0), (1, 8, 0, 0), (1, 8, 0, 0), (4, 7, 0, 0), (1, 768, 0, 0)] cA ad (sR (emS (sR (emS Z0 7) 0 3 7) 13) 0 4 13)) H := hP
  have hz : H.size = base + 34 := hz
  refine W.eq (g2 := F0 m 10 ls [.ref (ad 33), .ref (ad 32)]) rfl ?_
  refine dn_putF (a := 32) (j := 0) (j0 := 0) (z := 1) hx hb hts hown hin hK had tco_7 rfl (by decide) (by
      have h9 : ∀ i, i < 0 → 0 ≤ i → (((fks 7)[i]?.map (fun k => decide (k.1 < 2))).getD true) = true := by decide
      intro i kd h1 h2 h3
      have h8 := h9 i h2 h1
      rw [h3] at h8
      simpa using h8) wd_272 rfl rfl (fun _ => rfl) (fun _ => rfl) rfl hP hz hS (by decide) (by decide +kernel) (fun H locs hP hz hS => ?_)
  have hP : va_P D cls (wsD [(4, 8, 6, 0), (1, 400, 1, 0), (0, 4, 0, 0), (0, 6, 0, 0), (1, 401, 0, 0), (1, 401, 0, 0), (1, 401, 0, 0), (0, 3, 0, 0), (1, 8, 0, 0), (1, 96, 0, 0), (1, 20, 0, 0), (1, 48, 0, 0), (1, 9, 0, 0), (0, 3, 0, 0), (1, 8, 0, 0), (1, 96, 0, 0), (1, 20, 0, 0), (1, 48, 0, 0), (1, 9, 0, 0), (0, 2, 0, 0), (1, 8, 0, 0), (1, 8, 0, 0), (1, 8, 0, 0), (1, 8, 0, 0), (1, 8, 0, 0), (1, 8, 0, 0), (1, 8, 0, 0), (1, 4, 0, 0), (1, 8, 0, 0), (1, 8, 0, 0), (1, 8, 0, 0), (1, 8, 0, 0), (4, 7, 1, 0), (1, 768, 0, 0)] cA ad (sR (emS (sR (emS Z0 7) 0 3 7) 13) 0 4 13)) H := hP
  have hz : H.size = base + 34 := hz
  refine lv_aload_n hx hb (by decide +kernel : decode prog_9_method_1_code 13 = .ok (.aload_n 0, 1)) rfl (lv_at hl 0 rfl) ?_
  refine lv_iconst (n := 3) (v := 3) hx hb (by decide +kernel) (by decide) ?_
  refine dn_arr (atype := .long) (ty := .long) (t := 3) (N := 3) (a0 := (3, .inr (.inl (fun _ => 0)))) (en := (2, 3, 0, 0)) hx hb hts hK had rfl wd_282 rfl (fun _ h => h) (fun _ => rfl) rfl hP hz hS (by decide) (by decide) (by decide) (by decide) (Nat.le_of_ble_eq_true rfl) (Nat.le_of_ble_eq_true rfl) (by decide +kernel) (fun H hP hz hS => ?_)
  have hP : va_P D cls (wsD [(4, 8, 6, 0), (1, 400, 1, 0), (0, 4, 0, 0), (0, 6, 0, 0), (1, 401, 0, 0), (1, 401, 0, 0), (1, 401, 0, 0), (0, 3, 0, 0), (1, 8, 0, 0), (1, 96, 0, 0), (1, 20, 0, 0), (1, 48, 0, 0), (1, 9, 0, 0), (0, 3, 0, 0), (1, 8, 0, 0), (1, 96, 0, 0), (1, 20, 0, 0), (1, 48, 0, 0), (1, 9, 0, 0), (0, 2, 0, 0), (1, 8, 0, 0), (1, 8, 0, 0), (1, 8, 0, 0), (1, 8, 0, 0), (1, 8, 0, 0), (1, 8, 0, 0), (1, 8, 0, 0), (1, 4, 0, 0), (1, 8, 0, 0), (1, 8, 0, 0), (1, 8, 0, 0), (1, 8, 0, 0), (4, 7, 1, 0), (1, 768, 0, 0), (2, 3, 0, 0)] cA ad (sR (emS (sR (emS Z0 7) 0 3 7) 13) 0 4 13)) H := hP
  have hz : H.size = base + 35 := hz
  refine W.eq (g2 := F0 m 17 ls [.ref (ad 34), .ref (ad 32)]) rfl ?_
  refine dn_putF (a := 32) (j := 1) (j0 := 1) (z := 2) hx hb hts hown hin hK had tco_7 rfl (by decide) (by
      have h9 : ∀ i, i < 1 → 1 ≤ i → (((fks 7)[i]?.map (fun k => decide (k.1 < 2))).getD true) = true := by decide
      intro i kd h1 h2 h3
      have h8 := h9 i h2 h1
      rw [h3] at h8
      simpa using h8) wd_273 rfl rfl (fun _ => rfl) (fun _ => rfl) rfl hP hz hS (by decide) (by decide +kernel) (fun H locs hP hz hS => ?_)
  have hP : va_P D cls (wsD [(4, 8, 6, 0), (1, 400, 1, 0), (0, 4, 0, 0), (0, 6, 0, 0), (1, 401, 0, 0), (1, 401, 0, 0), (1, 401, 0, 0), (0, 3, 0, 0), (1, 8, 0, 0), (1, 96, 0, 0), (1, 20, 0, 0), (1, 48, 0, 0), (1, 9, 0, 0), (0, 3, 0, 0), (1, 8, 0, 0), (1, 96, 0, 0), (1, 20, 0, 0), (1, 48, 0, 0), (1, 9, 0, 0), (0, 2, 0, 0), (1, 8, 0, 0), (1, 8, 0, 0), (1, 8, 0, 0), (1, 8, 0, 0), (1, 8, 0, 0), (1, 8, 0, 0), (1, 8, 0, 0), (1, 4, 0, 0), (1, 8, 0, 0), (1, 8, 0, 0), (1, 8, 0, 0), (1, 8, 0, 0), (4, 7, 2, 0), (1, 768, 0, 0), (2, 3, 0, 0)] cA ad (sR (emS (sR (emS Z0 7) 0 3 7) 13) 0 4 13)) H := hP
  have hz : H.size = base + 35 := hz
  refine lv_aload_n hx hb (by decide +kernel : decode prog_9_method_1_code 20 = .ok (.aload_n 0, 1)) rfl (lv_at hl 0 rfl) ?_
  refine lv_iconst (n := 3) (v := 3) hx hb (by decide +kernel) (by decide) ?_
  refine dn_arr (atype := .long) (ty := .long) (t := 3) (N := 3) (a0 := (3, .inr (.inl (fun _ => 0)))) (en := (2, 3, 0, 0)) hx hb hts hK had rfl wd_282 rfl (fun _ h => h) (fun _ => rfl) rfl hP hz hS (by decide) (by decide) (by decide) (by decide) (Nat.le_of_ble_eq_true rfl) (Nat.le_of_ble_eq_true rfl) (by decide +kernel) (fun H hP hz hS => ?_)
  have hP : va_P D cls (wsD [(4, 8, 6, 0), (1, 400, 1, 0), (0, 4, 0, 0), (0, 6, 0, 0), (1, 401, 0, 0), (1, 401, 0, 0), (1, 401, 0, 0), (0, 3, 0, 0), (1, 8, 0, 0), (1, 96, 0, 0), (1, 20, 0, 0), (1, 48, 0, 0), (1, 9, 0, 0), (0, 3, 0, 0), (1, 8, 0, 0), (1, 96, 0, 0), (1, 20, 0, 0), (1, 48, 0, 0), (1, 9, 0, 0), (0, 2, 0, 0), (1, 8, 0, 0), (1, 8, 0, 0), (1, 8, 0, 0), (1, 8, 0, 0), (1, 8, 0, 0), (1, 8, 0, 0), (1, 8, 0, 0), (1, 4, 0, 0), (1, 8, 0, 0), (1, 8, 0, 0), (1, 8, 0, 0), (1, 8, 0, 0), (4, 7, 2, 0), (1, 768, 0, 0), (2, 3, 0, 0), (2, 3, 0, 0)] cA ad (sR (emS (sR (emS Z0 7) 0 3 7) 13) 0 4 13)) H := hP
  have hz : H.size = base + 36 := hz
  refine W.eq (g2 := F0 m 24 ls [.ref (ad 35), .ref (ad 32)]) rfl ?_
  refine dn_putF (a := 32) (j := 2) (j0 := 2) (z := 3) hx hb hts hown hin hK had tco_7 rfl (by decide) (by
      have h9 : ∀ i, i < 2 → 2 ≤ i → (((fks 7)[i]?.map (fun k => decide (k.1 < 2))).getD true) = true := by decide
      intro i kd h1 h2 h3
      have h8 := h9 i h2 h1
      rw [h3] at h8
      simpa using h8) wd_274 rfl rfl (fun _ => rfl) (fun _ => rfl) rfl hP hz hS (by decide) (by decide +kernel) (fun H locs hP hz hS => ?_)
  have hP : va_P D cls (wsD [(4, 8, 6, 0), (1, 400, 1, 0), (0, 4, 0, 0), (0, 6, 0, 0), (1, 401, 0, 0), (1, 401, 0, 0), (1, 401, 0, 0), (0, 3, 0, 0), (1, 8, 0, 0), (1, 96, 0, 0), (1, 20, 0, 0), (1, 48, 0, 0), (1, 9, 0, 0), (0, 3, 0, 0), (1, 8, 0, 0), (1, 96, 0, 0), (1, 20, 0, 0), (1, 48, 0, 0), (1, 9, 0, 0), (0, 2, 0, 0), (1, 8, 0, 0), (1, 8, 0, 0), (1, 8, 0, 0), (1, 8, 0, 0), (1, 8, 0, 0), (1, 8, 0, 0), (1, 8, 0, 0), (1, 4, 0, 0), (1, 8, 0, 0), (1, 8, 0, 0), (1, 8, 0, 0), (1, 8, 0, 0), (4, 7, 3, 0), (1, 768, 0, 0), (2, 3, 0, 0), (2, 3, 0, 0)] cA ad (sR (emS (sR (emS Z0 7) 0 3 7) 13) 0 4 13)) H := hP
  have hz : H.size = base + 36 := hz
  have hP := dn_done hP (a := 32) (ci := 7) (j := 3) rfl (by
      have h9 : ∀ i, i < 3 → 3 ≤ i → (((fks 7)[i]?.map (fun k => decide (k.1 < 2))).getD true) = true := by decide
      intro i kd h1 h3
      have h8 := h9 i (List.getElem?_eq_some_iff.mp h3).1 h1
      rw [h3] at h8
      simpa using h8)
  have hP : va_P D cls (wsD [(4, 8, 6, 0), (1, 400, 1, 0), (0, 4, 0, 0), (0, 6, 0, 0), (1, 401, 0, 0), (1, 401, 0, 0), (1, 401, 0, 0), (0, 3, 0, 0), (1, 8, 0, 0), (1, 96, 0, 0), (1, 20, 0, 0), (1, 48, 0, 0), (1, 9, 0, 0), (0, 3, 0, 0), (1, 8, 0, 0), (1, 96, 0, 0), (1, 20, 0, 0), (1, 48, 0, 0), (1, 9, 0, 0), (0, 2, 0, 0), (1, 8, 0, 0), (1, 8, 0, 0), (1, 8, 0, 0), (1, 8, 0, 0), (1, 8, 0, 0), (1, 8, 0, 0), (1, 8, 0, 0), (1, 4, 0, 0), (1, 8, 0, 0), (1, 8, 0, 0), (1, 8, 0, 0), (1, 8, 0, 0), (0, 7, 0, 0), (1, 768, 0, 0), (2, 3, 0, 0), (2, 3, 0, 0)] cA ad (sR (emS (sR (emS Z0 7) 0 3 7) 13) 0 4 13)) H := hP
  have hz : H.size = base + 36 := hz
  have hPL : va_P D cls (wsL [(4, 8, 6, 0), (1, 400, 1, 0), (0, 4, 0, 0), (0, 6, 0, 0), (1, 401, 0, 0), (1, 401, 0, 0), (1, 401, 0, 0), (0, 3, 0, 0), (1, 8, 0, 0), (1, 96, 0, 0), (1, 20, 0, 0), (1, 48, 0, 0), (1, 9, 0, 0), (0, 3, 0, 0), (1, 8, 0, 0), (1, 96, 0, 0), (1, 20, 0, 0), (1, 48, 0, 0), (1, 9, 0, 0), (0, 2, 0, 0), (1, 8, 0, 0), (1, 8, 0, 0), (1, 8, 0, 0), (1, 8, 0, 0), (1, 8, 0, 0), (1, 8, 0, 0), (1, 8, 0, 0), (1, 4, 0, 0), (1, 8, 0, 0), (1, 8, 0, 0), (1, 8, 0, 0), (1, 8, 0, 0), (0, 7, 0, 0), (1, 768, 0, 0), (2, 3, 0, 0), (2, 3, 0, 0)] cA ad (sR (emS (sR (emS Z0 7) 0 3 7) 13) 0 4 13)) H := hP
  have hDL : va_D (fun q => base ≤ q) (wsL [(4, 8, 6, 0), (1, 400, 1, 0), (0, 4, 0, 0), (0, 6, 0, 0), (1, 401, 0, 0), (1, 401, 0, 0), (1, 401, 0, 0), (0, 3, 0, 0), (1, 8, 0, 0), (1, 96, 0, 0), (1, 20, 0, 0), (1, 48, 0, 0), (1, 9, 0, 0), (0, 3, 0, 0), (1, 8, 0, 0), (1, 96, 0, 0), (1, 20, 0, 0), (1, 48, 0, 0), (1, 9, 0, 0), (0, 2, 0, 0), (1, 8, 0, 0), (1, 8, 0, 0), (1, 8, 0, 0), (1, 8, 0, 0), (1, 8, 0, 0), (1, 8, 0, 0), (1, 8, 0, 0), (1, 4, 0, 0), (1, 8, 0, 0), (1, 8, 0, 0), (1, 8, 0, 0), (1, 8, 0, 0), (0, 7, 0, 0), (1, 768, 0, 0), (2, 3, 0, 0), (2, 3, 0, 0)] cA ad (sR (emS (sR (emS Z0 7) 0 3 7) 13) 0 4 13)) := wsD_D had (by decide)
  have hT := TlOk.run (kt_YR_init_32 [(4, 8, 6, 0), (1, 400, 1, 0), (0, 4, 0, 0), (0, 6, 0, 0), (1, 401, 0, 0), (1, 401, 0, 0), (1, 401, 0, 0), (0, 3, 0, 0), (1, 8, 0, 0), (1, 96, 0, 0), (1, 20, 0, 0), (1, 48, 0, 0), (1, 9, 0, 0), (0, 3, 0, 0), (1, 8, 0, 0), (1, 96, 0, 0), (1, 20, 0, 0), (1, 48, 0, 0), (1, 9, 0, 0), (0, 2, 0, 0), (1, 8, 0, 0), (1, 8, 0, 0), (1, 8, 0, 0), (1, 8, 0, 0), (1, 8, 0, 0), (1, 8, 0, 0), (1, 8, 0, 0), (1, 4, 0, 0), (1, 8, 0, 0), (1, 8, 0, 0), (1, 8, 0, 0), (1, 8, 0, 0), (0, 7, 0, 0), (1, 768, 0, 0), (2, 3, 0, 0), (2, 3, 0, 0)]) (p := p) (l := l) (e := e) (R := rmI 2 3 774) (s := s) (m := m) (args := [Value.ref (ad 32)].toArray) (below := below) (meth := meth) (c := c) (D := D) (cA := cA) (ad := ad) (A := fun q => base ≤ q) (ret := none) (cs := 3) (sl := 774) (Qm := MQ below (va_Qv (fun _ : Unit => True) (fun _ t => BI [(4, 8, 6, 0), (1, 400, 1, 0), (0, 4, 0, 0), (0, 6, 0, 0), (1, 401, 0, 0), (1, 401, 0, 0), (1, 401, 0, 0), (0, 3, 0, 0), (1, 8, 0, 0), (1, 96, 0, 0), (1, 20, 0, 0), (1, 48, 0, 0), (1, 9, 0, 0), (0, 3, 0, 0), (1, 8, 0, 0), (1, 96, 0, 0), (1, 20, 0, 0), (1, 48, 0, 0), (1, 9, 0, 0), (0, 2, 0, 0), (1, 8, 0, 0), (1, 8, 0, 0), (1, 8, 0, 0), (1, 8, 0, 0), (1, 8, 0, 0), (1, 8, 0, 0), (1, 8, 0, 0), (1, 4, 0, 0), (1, 8, 0, 0), (1, 8, 0, 0), (1, 8, 0, 0), (1, 8, 0, 0), (0, 7, 0, 0), (1, 768, 0, 0), (2, 3, 0, 0), (2, 3, 0, 0)] D cA ad base (fgS (sR (emS (sR (emS Z0 7) 0 3 7) 13) 0 4 13) 32) t) (fun q => base ≤ q)) [Value.ref (ad 32)].toArray s 3 774 (fun q => base ≤ q)) (Q := fun _ S9 => S9 = (fgS (sR (emS (sR (emS Z0 7) 0 3 7) 13) 0 4 13) 32)) (pc := 27) (lo := [(0, .ref 32)]) (st := []) (S := (sR (emS (sR (emS Z0 7) 0 3 7) 13) 0 4 13)) ⟨Nat.le_refl _, Nat.le_refl _, Nat.le_refl _, Nat.le_refl _⟩ ⟨hx, hb, hr, hlocks, hml, hown, hts, hK, hXS⟩ (fun S9 pc9 ls H locs hQ hd hP hS => ?_) st_YR_init_32
  · exact hT H _ ls hPL hDL hS hl
  · subst hQ
    refine W_size (fun hsz => ?_)
    have hP : va_P D cls (wsD [(4, 8, 6, 0), (1, 400, 1, 0), (0, 4, 0, 0), (0, 6, 0, 0), (1, 401, 0, 0), (1, 401, 0, 0), (1, 401, 0, 0), (0, 3, 0, 0), (1, 8, 0, 0), (1, 96, 0, 0), (1, 20, 0, 0), (1, 48, 0, 0), (1, 9, 0, 0), (0, 3, 0, 0), (1, 8, 0, 0), (1, 96, 0, 0), (1, 20, 0, 0), (1, 48, 0, 0), (1, 9, 0, 0), (0, 2, 0, 0), (1, 8, 0, 0), (1, 8, 0, 0), (1, 8, 0, 0), (1, 8, 0, 0), (1, 8, 0, 0), (1, 8, 0, 0), (1, 8, 0, 0), (1, 4, 0, 0), (1, 8, 0, 0), (1, 8, 0, 0), (1, 8, 0, 0), (1, 8, 0, 0), (0, 7, 0, 0), (1, 768, 0, 0), (2, 3, 0, 0), (2, 3, 0, 0)] cA ad (fgS (sR (emS (sR (emS Z0 7) 0 3 7) 13) 0 4 13) 32)) H := hP
    have hlt := (hP 35 _ (wsD_at rfl)).lt
    have hlt2 : ad 35 < H.size := hlt
    rw [had 35 (by decide)] at hlt2
    have hz : H.size = base + 36 := sz_eq hsz hz00 hlt2 rfl
    exact W.vret hx hb hr (fun t ht hW => ⟨⟨(), rfl, trivial, by rw [ht]; exact hz, by rw [ht]; exact hP, va_K.moved hW.alike hK, hXS.next ht hW hS, va_AO.moved hW.alike hAO, hNL.warm hW⟩, hS.F ht⟩) hS.2.2 hd hlocks
