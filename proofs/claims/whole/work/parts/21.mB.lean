section
variable {p : Program} {l : Launch} {e : Env} {s : State} {m : MethodId} {args : Array Value} {below : List Frame} {meth : Method} {c : Code} {A : Nat → Prop} {dC : Nat → ClassId} {dI : Nat → Nat → Nat} {cyI cyJ cyZ : ClassId}
abbrev w_X3_leadAt (cyI cyJ cyZ : ClassId) (qE q_por q_confs q_near q_leads q_agrees q_answers q_hopes q_opens q_most q_ready : Nat) (rRules : Int32) (rCount : Int32) (leads : Nat → Int32) : va_W := [(qE, .inr (2, [.ref q_por, .ref q_confs, .ref q_near, .ref q_leads, .ref q_agrees, .ref q_answers, .ref q_hopes, .ref q_opens, .ref q_most, .ref q_ready, .int rRules, .int rCount])), (q_leads, .inl (cyI, 5544, .inl leads))]
abbrev rm_X3_leadAt : Room := { frames := 0, cells := 0, slots := 0, locals := 0 }
theorem hn_X3_leadAt_X3 : ∀ w ∈ wsX30, w ∈ wsX3_leadAt := fun _ h => List.mem_cons_of_mem _ (List.mem_append_right _ h)
def f_X3_leadAt (N : Nat) (x1 : Int32) (x2 : Int32) (leads : Nat → Int32) : Option (Int32) :=
  gd (inb ((x1 * 12) + x2) 5544) (some (leads ((x1 * 12) + x2).toNatClampNeg))
set_option maxHeartbeats 4000000 in
set_option maxRecDepth 100000 in
theorem t_X3_leadAt (C0 : Cx p s m args meth c cX3_leadAt (some .int) 3 RX3 wsX3_leadAt A dC dI cyI cyJ cyZ) {qE q_por q_confs q_near q_leads q_agrees q_answers q_hopes q_opens q_most q_ready : Nat} (hXs : X0 A s) {N : Nat} {x1 : Int32} {x2 : Int32} {leads : Nat → Int32} {rRules : Int32} {rCount : Int32} {r9 : Int32} (hf : f_X3_leadAt N x1 x2 leads = some r9) (H : Heap) (locs : List Loc) (ls : Array Slot) (hP : va_P (dC, dI) vwCl (w_X3_leadAt cyI cyJ cyZ qE q_por q_confs q_near q_leads q_agrees q_answers q_hopes q_opens q_most q_ready rRules rCount leads) H) (hD : va_D A (w_X3_leadAt cyI cyJ cyZ qE q_por q_confs q_near q_leads q_agrees q_answers q_hopes q_opens q_most q_ready rRules rCount leads)) (hS : va_S A s.heap H locs) (hl : lv_has ls 3 [(0, .ref qE), (1, .int x1), (2, .int x2)]) : W p l e rm_X3_leadAt s m args below meth c H locs 0 0 (MQ below (Qzi dC dI cyI cyJ cyZ A (w_X3_leadAt cyI cyJ cyZ qE q_por q_confs q_near q_leads q_agrees q_answers q_hopes q_opens q_most q_ready rRules rCount leads) r9) args s 0 0 A) (F0 m 0 ls []) := by
  have C1 := C0
  obtain ⟨hx, hb, hr, hlocks, hml, hown, hts, hA, hK⟩ := C1
  unfold f_X3_leadAt at hf
  refine lv_aload_n hx hb dX3_leadAt_0 rfl (lv_at hl 0 rfl) ?_
  refine va_get (D := (dC, dI)) (ci := 2) (v := .ref q_leads) (C := RX3) (T := TX3) (N := 12) hx hb hts hn_X3_leadAt_X3 hown hK hP 0 rfl rfl 3 (by decide) (hts (.fieldLink RX3 23 "MetAgents$Reach" "leads" "[I") (List.mem_of_getElem? (i := 1) rfl)) (fun _ h9 => h9) rfl dX3_leadAt_1 ?_
  refine lv_iload_n hx hb dX3_leadAt_4 rfl (lv_at hl 1 rfl) ?_
  refine lv_bipush (v := 12) hx hb dX3_leadAt_5 (by decide) ?_
  refine lv_imul hx hb dX3_leadAt_7 ?_
  refine lv_iload_n hx hb dX3_leadAt_8 rfl (lv_at hl 2 rfl) ?_
  refine lv_iadd hx hb dX3_leadAt_9 ?_
  obtain ⟨h_1, hf⟩ := gd_el hf
  refine va_iald hx hb hK hP 1 0 rfl rfl (inb_in h_1) dX3_leadAt_10 ?_
  cases hf
  exact W.iret hx hb hr (fun t ht hW => ⟨⟨_, (), rfl, rfl, by rw [ht]; exact hP, va_K.moved hW.alike hK, hD⟩, hS.F ht⟩) hS.2.2 dX3_leadAt_11
set_option maxHeartbeats 4000000 in
set_option maxRecDepth 100000 in
theorem c_X3_leadAt (l : Launch) (dC : Nat → ClassId) (dI : Nat → Nat → Nat) (cyI cyJ cyZ : ClassId) (qE q_por q_confs q_near q_leads q_agrees q_answers q_hopes q_opens q_most q_ready : Nat) (sz N : Nat) (x1 : Int32) (x2 : Int32) (leads : Nat → Int32) (rRules : Int32) (rCount : Int32) (r9 : Int32) (hf : f_X3_leadAt N x1 x2 leads = some r9) : Met l yX3_leadAt wsX3_leadAt rm_X3_leadAt (Pz dC dI cyI cyJ cyZ [.ref qE, .int x1, .int x2] sz (w_X3_leadAt cyI cyJ cyZ qE q_por q_confs q_near q_leads q_agrees q_answers q_hopes q_opens q_most q_ready rRules rCount leads) X0) (Qzi dC dI cyI cyJ cyZ (va_A (w_X3_leadAt cyI cyJ cyZ qE q_por q_confs q_near q_leads q_agrees q_answers q_hopes q_opens q_most q_ready rRules rCount leads) sz) (w_X3_leadAt cyI cyJ cyZ qE q_por q_confs q_near q_leads q_agrees q_answers q_hopes q_opens q_most q_ready rRules rCount leads) r9) 0 0 (va_A (w_X3_leadAt cyI cyJ cyZ qE q_por q_confs q_near q_leads q_agrees q_answers q_hopes q_opens q_most q_ready rRules rCount leads) sz) := by
  refine Met_of (cc := cX3_leadAt) (maxL := 3) (ret := (some .int)) (by decide) rfl (Nat.le_of_ble_eq_true rfl) ?_
  intro p e s m args below meth c ls C0 hsz hXs hP hD hS hl
  exact t_X3_leadAt C0 hXs hf s.heap [] ls hP hD hS hl
abbrev w_X3_configurationAt (cyI cyJ cyZ : ClassId) (qE q_por q_confs q_near q_leads q_agrees q_answers q_hopes q_opens q_most q_ready : Nat) (rRules : Int32) (rCount : Int32) (confs : Nat → Int32) : va_W := [(qE, .inr (2, [.ref q_por, .ref q_confs, .ref q_near, .ref q_leads, .ref q_agrees, .ref q_answers, .ref q_hopes, .ref q_opens, .ref q_most, .ref q_ready, .int rRules, .int rCount])), (q_confs, .inl (cyI, 462, .inl confs))]
abbrev rm_X3_configurationAt : Room := { frames := 0, cells := 0, slots := 0, locals := 0 }
theorem hn_X3_configurationAt_X3 : ∀ w ∈ wsX30, w ∈ wsX3_configurationAt := fun _ h => List.mem_cons_of_mem _ (List.mem_append_right _ h)
def f_X3_configurationAt (N : Nat) (x1 : Int32) (confs : Nat → Int32) : Option (Int32) :=
  gd (inb x1 462) (some (confs x1.toNatClampNeg))
set_option maxHeartbeats 4000000 in
set_option maxRecDepth 100000 in
theorem t_X3_configurationAt (C0 : Cx p s m args meth c cX3_configurationAt (some .int) 2 RX3 wsX3_configurationAt A dC dI cyI cyJ cyZ) {qE q_por q_confs q_near q_leads q_agrees q_answers q_hopes q_opens q_most q_ready : Nat} (hXs : X0 A s) {N : Nat} {x1 : Int32} {confs : Nat → Int32} {rRules : Int32} {rCount : Int32} {r9 : Int32} (hf : f_X3_configurationAt N x1 confs = some r9) (H : Heap) (locs : List Loc) (ls : Array Slot) (hP : va_P (dC, dI) vwCl (w_X3_configurationAt cyI cyJ cyZ qE q_por q_confs q_near q_leads q_agrees q_answers q_hopes q_opens q_most q_ready rRules rCount confs) H) (hD : va_D A (w_X3_configurationAt cyI cyJ cyZ qE q_por q_confs q_near q_leads q_agrees q_answers q_hopes q_opens q_most q_ready rRules rCount confs)) (hS : va_S A s.heap H locs) (hl : lv_has ls 2 [(0, .ref qE), (1, .int x1)]) : W p l e rm_X3_configurationAt s m args below meth c H locs 0 0 (MQ below (Qzi dC dI cyI cyJ cyZ A (w_X3_configurationAt cyI cyJ cyZ qE q_por q_confs q_near q_leads q_agrees q_answers q_hopes q_opens q_most q_ready rRules rCount confs) r9) args s 0 0 A) (F0 m 0 ls []) := by
  have C1 := C0
  obtain ⟨hx, hb, hr, hlocks, hml, hown, hts, hA, hK⟩ := C1
  unfold f_X3_configurationAt at hf
  refine lv_aload_n hx hb dX3_configurationAt_0 rfl (lv_at hl 0 rfl) ?_
  refine va_get (D := (dC, dI)) (ci := 2) (v := .ref q_confs) (C := RX3) (T := TX3) (N := 12) hx hb hts hn_X3_configurationAt_X3 hown hK hP 0 rfl rfl 1 (by decide) (hts (.fieldLink RX3 17 "MetAgents$Reach" "configurations" "[I") (List.mem_of_getElem? (i := 1) rfl)) (fun _ h9 => h9) rfl dX3_configurationAt_1 ?_
  refine lv_iload_n hx hb dX3_configurationAt_4 rfl (lv_at hl 1 rfl) ?_
  obtain ⟨h_1, hf⟩ := gd_el hf
  refine va_iald hx hb hK hP 1 0 rfl rfl (inb_in h_1) dX3_configurationAt_5 ?_
  cases hf
  exact W.iret hx hb hr (fun t ht hW => ⟨⟨_, (), rfl, rfl, by rw [ht]; exact hP, va_K.moved hW.alike hK, hD⟩, hS.F ht⟩) hS.2.2 dX3_configurationAt_6
set_option maxHeartbeats 4000000 in
set_option maxRecDepth 100000 in
theorem c_X3_configurationAt (l : Launch) (dC : Nat → ClassId) (dI : Nat → Nat → Nat) (cyI cyJ cyZ : ClassId) (qE q_por q_confs q_near q_leads q_agrees q_answers q_hopes q_opens q_most q_ready : Nat) (sz N : Nat) (x1 : Int32) (confs : Nat → Int32) (rRules : Int32) (rCount : Int32) (r9 : Int32) (hf : f_X3_configurationAt N x1 confs = some r9) : Met l yX3_configurationAt wsX3_configurationAt rm_X3_configurationAt (Pz dC dI cyI cyJ cyZ [.ref qE, .int x1] sz (w_X3_configurationAt cyI cyJ cyZ qE q_por q_confs q_near q_leads q_agrees q_answers q_hopes q_opens q_most q_ready rRules rCount confs) X0) (Qzi dC dI cyI cyJ cyZ (va_A (w_X3_configurationAt cyI cyJ cyZ qE q_por q_confs q_near q_leads q_agrees q_answers q_hopes q_opens q_most q_ready rRules rCount confs) sz) (w_X3_configurationAt cyI cyJ cyZ qE q_por q_confs q_near q_leads q_agrees q_answers q_hopes q_opens q_most q_ready rRules rCount confs) r9) 0 0 (va_A (w_X3_configurationAt cyI cyJ cyZ qE q_por q_confs q_near q_leads q_agrees q_answers q_hopes q_opens q_most q_ready rRules rCount confs) sz) := by
  refine Met_of (cc := cX3_configurationAt) (maxL := 2) (ret := (some .int)) (by decide) rfl (Nat.le_of_ble_eq_true rfl) ?_
  intro p e s m args below meth c ls C0 hsz hXs hP hD hS hl
  exact t_X3_configurationAt C0 hXs hf s.heap [] ls hP hD hS hl
abbrev w_X3_answerAt (cyI cyJ cyZ : ClassId) (qE q_por q_confs q_near q_leads q_agrees q_answers q_hopes q_opens q_most q_ready : Nat) (rRules : Int32) (rCount : Int32) (answers : Nat → Int32) : va_W := [(qE, .inr (2, [.ref q_por, .ref q_confs, .ref q_near, .ref q_leads, .ref q_agrees, .ref q_answers, .ref q_hopes, .ref q_opens, .ref q_most, .ref q_ready, .int rRules, .int rCount])), (q_answers, .inl (cyI, 462, .inl answers))]
abbrev rm_X3_answerAt : Room := { frames := 0, cells := 0, slots := 0, locals := 0 }
theorem hn_X3_answerAt_X3 : ∀ w ∈ wsX30, w ∈ wsX3_answerAt := fun _ h => List.mem_cons_of_mem _ (List.mem_append_right _ h)
def f_X3_answerAt (N : Nat) (x1 : Int32) (answers : Nat → Int32) : Option (Int32) :=
  gd (inb x1 462) (some (answers x1.toNatClampNeg))
set_option maxHeartbeats 4000000 in
set_option maxRecDepth 100000 in
theorem t_X3_answerAt (C0 : Cx p s m args meth c cX3_answerAt (some .int) 2 RX3 wsX3_answerAt A dC dI cyI cyJ cyZ) {qE q_por q_confs q_near q_leads q_agrees q_answers q_hopes q_opens q_most q_ready : Nat} (hXs : X0 A s) {N : Nat} {x1 : Int32} {answers : Nat → Int32} {rRules : Int32} {rCount : Int32} {r9 : Int32} (hf : f_X3_answerAt N x1 answers = some r9) (H : Heap) (locs : List Loc) (ls : Array Slot) (hP : va_P (dC, dI) vwCl (w_X3_answerAt cyI cyJ cyZ qE q_por q_confs q_near q_leads q_agrees q_answers q_hopes q_opens q_most q_ready rRules rCount answers) H) (hD : va_D A (w_X3_answerAt cyI cyJ cyZ qE q_por q_confs q_near q_leads q_agrees q_answers q_hopes q_opens q_most q_ready rRules rCount answers)) (hS : va_S A s.heap H locs) (hl : lv_has ls 2 [(0, .ref qE), (1, .int x1)]) : W p l e rm_X3_answerAt s m args below meth c H locs 0 0 (MQ below (Qzi dC dI cyI cyJ cyZ A (w_X3_answerAt cyI cyJ cyZ qE q_por q_confs q_near q_leads q_agrees q_answers q_hopes q_opens q_most q_ready rRules rCount answers) r9) args s 0 0 A) (F0 m 0 ls []) := by
  have C1 := C0
  obtain ⟨hx, hb, hr, hlocks, hml, hown, hts, hA, hK⟩ := C1
  unfold f_X3_answerAt at hf
  refine lv_aload_n hx hb dX3_answerAt_0 rfl (lv_at hl 0 rfl) ?_
  refine va_get (D := (dC, dI)) (ci := 2) (v := .ref q_answers) (C := RX3) (T := TX3) (N := 12) hx hb hts hn_X3_answerAt_X3 hown hK hP 0 rfl rfl 5 (by decide) (hts (.fieldLink RX3 29 "MetAgents$Reach" "answers" "[I") (List.mem_of_getElem? (i := 1) rfl)) (fun _ h9 => h9) rfl dX3_answerAt_1 ?_
  refine lv_iload_n hx hb dX3_answerAt_4 rfl (lv_at hl 1 rfl) ?_
  obtain ⟨h_1, hf⟩ := gd_el hf
  refine va_iald hx hb hK hP 1 0 rfl rfl (inb_in h_1) dX3_answerAt_5 ?_
  cases hf
  exact W.iret hx hb hr (fun t ht hW => ⟨⟨_, (), rfl, rfl, by rw [ht]; exact hP, va_K.moved hW.alike hK, hD⟩, hS.F ht⟩) hS.2.2 dX3_answerAt_6
set_option maxHeartbeats 4000000 in
set_option maxRecDepth 100000 in
theorem c_X3_answerAt (l : Launch) (dC : Nat → ClassId) (dI : Nat → Nat → Nat) (cyI cyJ cyZ : ClassId) (qE q_por q_confs q_near q_leads q_agrees q_answers q_hopes q_opens q_most q_ready : Nat) (sz N : Nat) (x1 : Int32) (answers : Nat → Int32) (rRules : Int32) (rCount : Int32) (r9 : Int32) (hf : f_X3_answerAt N x1 answers = some r9) : Met l yX3_answerAt wsX3_answerAt rm_X3_answerAt (Pz dC dI cyI cyJ cyZ [.ref qE, .int x1] sz (w_X3_answerAt cyI cyJ cyZ qE q_por q_confs q_near q_leads q_agrees q_answers q_hopes q_opens q_most q_ready rRules rCount answers) X0) (Qzi dC dI cyI cyJ cyZ (va_A (w_X3_answerAt cyI cyJ cyZ qE q_por q_confs q_near q_leads q_agrees q_answers q_hopes q_opens q_most q_ready rRules rCount answers) sz) (w_X3_answerAt cyI cyJ cyZ qE q_por q_confs q_near q_leads q_agrees q_answers q_hopes q_opens q_most q_ready rRules rCount answers) r9) 0 0 (va_A (w_X3_answerAt cyI cyJ cyZ qE q_por q_confs q_near q_leads q_agrees q_answers q_hopes q_opens q_most q_ready rRules rCount answers) sz) := by
  refine Met_of (cc := cX3_answerAt) (maxL := 2) (ret := (some .int)) (by decide) rfl (Nat.le_of_ble_eq_true rfl) ?_
  intro p e s m args below meth c ls C0 hsz hXs hP hD hS hl
  exact t_X3_answerAt C0 hXs hf s.heap [] ls hP hD hS hl
abbrev w_X3_place (cyI cyJ cyZ : ClassId) (qE q_por q_confs q_near q_leads q_agrees q_answers q_hopes q_opens q_most q_ready : Nat) (rRules : Int32) (rCount : Int32) (por : Nat → Int32) (confs : Nat → Int32) (near : Nat → Int32) : va_W := [(qE, .inr (2, [.ref q_por, .ref q_confs, .ref q_near, .ref q_leads, .ref q_agrees, .ref q_answers, .ref q_hopes, .ref q_opens, .ref q_most, .ref q_ready, .int rRules, .int rCount])), (q_por, .inl (cyI, 462, .inl por)), (q_confs, .inl (cyI, 462, .inl confs)), (q_near, .inl (cyI, 462, .inl near))]
abbrev rm_X3_place : Room := { frames := 2, cells := 0, slots := 0, locals := 44 }
theorem hn_X3_place_X3 : ∀ w ∈ wsX30, w ∈ wsX3_place := fun _ h => List.mem_cons_of_mem _ (List.mem_append_right _ h)
def f_X3_place (N : Nat) (x1 : Int32) (x2 : Int32) (rCount : Int32) (por : Nat → Int32) (confs : Nat → Int32) (near : Nat → Int32) : Option (Int32 × Int32 × (Nat → Int32) × (Nat → Int32) × (Nat → Int32)) :=
  bd1 (f_X1_rank N x1) (fun r_1 => (if r_1 < 0 then some ((-1), rCount, por, confs, near) else (if r_1 < 462 then gd (inb r_1 462) ((if 0 ≤ (por r_1.toNatClampNeg) then gd (inb r_1 462) (some (por r_1.toNatClampNeg, rCount, por, confs, near)) else (if 462 ≤ rCount then gd (inb r_1 462) (some (por r_1.toNatClampNeg, rCount, por, confs, near)) else gd (inb r_1 462) (nm (upd por r_1.toNatClampNeg rCount) (fun por_10 => gd (inb rCount 462) (nm (upd confs rCount.toNatClampNeg x1) (fun confs_12 => gd (inb rCount 462) (nm (upd near rCount.toNatClampNeg x2) (fun near_14 => nm (rCount + 1) (fun rCount_15 => gd (inb r_1 462) (some (por_10 r_1.toNatClampNeg, rCount_15, por_10, confs_12, near_14)))))))))))) else some ((-1), rCount, por, confs, near))))
set_option maxHeartbeats 4000000 in
set_option maxRecDepth 100000 in
theorem t_X3_place (C0 : Cx p s m args meth c cX3_place (some .int) 4 RX3 wsX3_place A dC dI cyI cyJ cyZ) {qE q_por q_confs q_near q_leads q_agrees q_answers q_hopes q_opens q_most q_ready : Nat} {tC : Nat} (hXs : (XC tC) A s) {N : Nat} {x1 : Int32} {x2 : Int32} {rCount : Int32} {por : Nat → Int32} {confs : Nat → Int32} {near : Nat → Int32} {rRules : Int32} {r9 : Int32} {rCount9 : Int32} {por9 : Nat → Int32} {confs9 : Nat → Int32} {near9 : Nat → Int32} (hf : f_X3_place N x1 x2 rCount por confs near = some (r9, rCount9, por9, confs9, near9)) (H : Heap) (locs : List Loc) (ls : Array Slot) (hP : va_P (dC, dI) vwCl (w_X3_place cyI cyJ cyZ qE q_por q_confs q_near q_leads q_agrees q_answers q_hopes q_opens q_most q_ready rRules rCount por confs near) H) (hD : va_D A (w_X3_place cyI cyJ cyZ qE q_por q_confs q_near q_leads q_agrees q_answers q_hopes q_opens q_most q_ready rRules rCount por confs near)) (hS : va_S A s.heap H locs) (hl : lv_has ls 4 [(0, .ref qE), (1, .int x1), (2, .int x2)]) : W p l e rm_X3_place s m args below meth c H locs 0 0 (MQ below (Qzi dC dI cyI cyJ cyZ A (w_X3_place cyI cyJ cyZ qE q_por q_confs q_near q_leads q_agrees q_answers q_hopes q_opens q_most q_ready rRules rCount9 por9 confs9 near9) r9) args s 0 0 A) (F0 m 0 ls []) := by
  have C1 := C0
  obtain ⟨hx, hb, hr, hlocks, hml, hown, hts, hA, hK⟩ := C1
  unfold f_X3_place at hf
  refine lv_iload_n hx hb dX3_place_0 rfl (lv_at hl 1 rfl) ?_
  obtain ⟨r_1, hc, hf⟩ := bd1_el hf
  refine cl_i (wc := (w_X1_rank cyI cyJ cyZ)) (wr := [(qE, .inr (2, [.ref q_por, .ref q_confs, .ref q_near, .ref q_leads, .ref q_agrees, .ref q_answers, .ref q_hopes, .ref q_opens, .ref q_most, .ref q_ready, .int rRules, .int rCount])), (q_por, .inl (cyI, 462, .inl por)), (q_confs, .inl (cyI, 462, .inl confs)), (q_near, .inl (cyI, 462, .inl near))]) (w1 := (w_X1_rank cyI cyJ cyZ)) (w2 := (w_X3_place cyI cyJ cyZ qE q_por q_confs q_near q_leads q_agrees q_answers q_hopes q_opens q_most q_ready rRules rCount por confs near)) C0 (rn_S (As := [.int x1]) (rest := []) (wc := (w_X1_rank cyI cyJ cyZ)) (X := (XC tC)) C0 (c_X1_rank l dC dI cyI cyJ cyZ tC H.size N x1 r_1 hc) (va_cwS 1 hts gX3_place_X1_rank rfl rfl rfl (by decide +kernel) ⟨Nat.le_of_ble_eq_true rfl, Nat.le_of_ble_eq_true rfl⟩) (XC_car tC) hXs hP hD hS [] rfl rfl rfl hl.1 rfl (Nat.le_of_ble_eq_true rfl) dX3_place_1 ⟨Nat.le_of_ble_eq_true rfl, Nat.le_of_ble_eq_true rfl⟩) hP hD hS [] [0, 1, 2, 3] [0, 1, 2, 3] rfl rfl rfl (by decide) rfl rfl (fun H locs hP hD hS => ?_)
  refine lv_istore_n (lv' := [(3, .int r_1), (0, .ref qE), (1, .int x1), (2, .int x2)]) hx hb dX3_place_4 rfl hl (by decide) rfl (fun ls hl => ?_)
  refine lv_iload_n hx hb dX3_place_5 rfl (lv_at hl 0 rfl) ?_
  refine lv_if_lt (tgt := 16) hx hb dX3_place_6 (by decide) (fun c_2 => ?_) (fun c_2 => ?_)
  · replace hf := it_t hf c_2
    refine lv_iconst (v := (-1)) hx hb dX3_place_16 (by decide) ?_
    cases hf
    exact W.iret hx hb hr (fun t ht hW => ⟨⟨_, (), rfl, rfl, by rw [ht]; exact hP, va_K.moved hW.alike hK, hD⟩, hS.F ht⟩) hS.2.2 dX3_place_17
  · replace hf := it_f hf c_2
    refine lv_iload_n hx hb dX3_place_9 rfl (lv_at hl 0 rfl) ?_
    refine lv_sipush (v := 462) hx hb dX3_place_10 (by decide) ?_
    refine lv_icmp_lt (tgt := 18) hx hb dX3_place_13 (by decide) (fun c_3 => ?_) (fun c_3 => ?_)
    · replace hf := it_t hf c_3
      refine lv_aload_n hx hb dX3_place_18 rfl (lv_at hl 1 rfl) ?_
      refine va_get (D := (dC, dI)) (ci := 2) (v := .ref q_por) (C := RX3) (T := TX3) (N := 12) hx hb hts hn_X3_place_X3 hown hK hP 0 rfl rfl 0 (by decide) (hts (.fieldLink RX3 11 "MetAgents$Reach" "placeOfRank" "[I") (List.mem_of_getElem? (i := 1) rfl)) (fun _ h9 => h9) rfl dX3_place_19 ?_
      refine lv_iload_n hx hb dX3_place_22 rfl (lv_at hl 0 rfl) ?_
      obtain ⟨h_4, hf⟩ := gd_el hf
      refine va_iald hx hb hK hP 1 0 rfl rfl (inb_in h_4) dX3_place_23 ?_
      refine lv_if_ge (tgt := 77) hx hb dX3_place_24 (by decide) (fun c_5 => ?_) (fun c_5 => ?_)
      · replace hf := it_t hf c_5
        refine lv_aload_n hx hb dX3_place_77 rfl (lv_at hl 1 rfl) ?_
        refine va_get (D := (dC, dI)) (ci := 2) (v := .ref q_por) (C := RX3) (T := TX3) (N := 12) hx hb hts hn_X3_place_X3 hown hK hP 0 rfl rfl 0 (by decide) (hts (.fieldLink RX3 11 "MetAgents$Reach" "placeOfRank" "[I") (List.mem_of_getElem? (i := 1) rfl)) (fun _ h9 => h9) rfl dX3_place_78 ?_
        refine lv_iload_n hx hb dX3_place_81 rfl (lv_at hl 0 rfl) ?_
        obtain ⟨h_6, hf⟩ := gd_el hf
        refine va_iald hx hb hK hP 1 0 rfl rfl (inb_in h_6) dX3_place_82 ?_
        cases hf
        exact W.iret hx hb hr (fun t ht hW => ⟨⟨_, (), rfl, rfl, by rw [ht]; exact hP, va_K.moved hW.alike hK, hD⟩, hS.F ht⟩) hS.2.2 dX3_place_83
      · replace hf := it_f hf c_5
        refine lv_aload_n hx hb dX3_place_27 rfl (lv_at hl 1 rfl) ?_
        refine va_get (D := (dC, dI)) (ci := 2) (v := .int rCount) (C := RX3) (T := TX3) (N := 12) hx hb hts hn_X3_place_X3 hown hK hP 0 rfl rfl 11 (by decide) (hts (.fieldLink RX3 60 "MetAgents$Reach" "count" "I") (List.mem_of_getElem? (i := 2) rfl)) (fun _ h9 => h9) rfl dX3_place_28 ?_
        refine lv_sipush (v := 462) hx hb dX3_place_31 (by decide) ?_
        refine lv_icmp_ge (tgt := 77) hx hb dX3_place_34 (by decide) (fun c_7 => ?_) (fun c_7 => ?_)
        · replace hf := it_t hf c_7
          refine lv_aload_n hx hb dX3_place_77 rfl (lv_at hl 1 rfl) ?_
          refine va_get (D := (dC, dI)) (ci := 2) (v := .ref q_por) (C := RX3) (T := TX3) (N := 12) hx hb hts hn_X3_place_X3 hown hK hP 0 rfl rfl 0 (by decide) (hts (.fieldLink RX3 11 "MetAgents$Reach" "placeOfRank" "[I") (List.mem_of_getElem? (i := 1) rfl)) (fun _ h9 => h9) rfl dX3_place_78 ?_
          refine lv_iload_n hx hb dX3_place_81 rfl (lv_at hl 0 rfl) ?_
          obtain ⟨h_8, hf⟩ := gd_el hf
          refine va_iald hx hb hK hP 1 0 rfl rfl (inb_in h_8) dX3_place_82 ?_
          cases hf
          exact W.iret hx hb hr (fun t ht hW => ⟨⟨_, (), rfl, rfl, by rw [ht]; exact hP, va_K.moved hW.alike hK, hD⟩, hS.F ht⟩) hS.2.2 dX3_place_83
        · replace hf := it_f hf c_7
          refine lv_aload_n hx hb dX3_place_37 rfl (lv_at hl 1 rfl) ?_
          refine va_get (D := (dC, dI)) (ci := 2) (v := .ref q_por) (C := RX3) (T := TX3) (N := 12) hx hb hts hn_X3_place_X3 hown hK hP 0 rfl rfl 0 (by decide) (hts (.fieldLink RX3 11 "MetAgents$Reach" "placeOfRank" "[I") (List.mem_of_getElem? (i := 1) rfl)) (fun _ h9 => h9) rfl dX3_place_38 ?_
          refine lv_iload_n hx hb dX3_place_41 rfl (lv_at hl 0 rfl) ?_
          refine lv_aload_n hx hb dX3_place_42 rfl (lv_at hl 1 rfl) ?_
          refine va_get (D := (dC, dI)) (ci := 2) (v := .int rCount) (C := RX3) (T := TX3) (N := 12) hx hb hts hn_X3_place_X3 hown hK hP 0 rfl rfl 11 (by decide) (hts (.fieldLink RX3 60 "MetAgents$Reach" "count" "I") (List.mem_of_getElem? (i := 2) rfl)) (fun _ h9 => h9) rfl dX3_place_43 ?_
          obtain ⟨h_9, hf⟩ := gd_el hf
          obtain ⟨por_10, e_10, hf⟩ := nm_el hf
          refine ast_i (w2 := (w_X3_place cyI cyJ cyZ qE q_por q_confs q_near q_leads q_agrees q_answers q_hopes q_opens q_most q_ready rRules rCount por_10 confs near)) hx hb hK hP hD hS 1 0 rfl rfl (inb_in h_9) e_10 rfl dX3_place_46 (fun H locs hP hD hS => ?_)
          refine lv_aload_n hx hb dX3_place_47 rfl (lv_at hl 1 rfl) ?_
          refine va_get (D := (dC, dI)) (ci := 2) (v := .ref q_confs) (C := RX3) (T := TX3) (N := 12) hx hb hts hn_X3_place_X3 hown hK hP 0 rfl rfl 1 (by decide) (hts (.fieldLink RX3 17 "MetAgents$Reach" "configurations" "[I") (List.mem_of_getElem? (i := 3) rfl)) (fun _ h9 => h9) rfl dX3_place_48 ?_
          refine lv_aload_n hx hb dX3_place_51 rfl (lv_at hl 1 rfl) ?_
          refine va_get (D := (dC, dI)) (ci := 2) (v := .int rCount) (C := RX3) (T := TX3) (N := 12) hx hb hts hn_X3_place_X3 hown hK hP 0 rfl rfl 11 (by decide) (hts (.fieldLink RX3 60 "MetAgents$Reach" "count" "I") (List.mem_of_getElem? (i := 2) rfl)) (fun _ h9 => h9) rfl dX3_place_52 ?_
          refine lv_iload_n hx hb dX3_place_55 rfl (lv_at hl 2 rfl) ?_
          obtain ⟨h_11, hf⟩ := gd_el hf
          obtain ⟨confs_12, e_12, hf⟩ := nm_el hf
          refine ast_i (w2 := (w_X3_place cyI cyJ cyZ qE q_por q_confs q_near q_leads q_agrees q_answers q_hopes q_opens q_most q_ready rRules rCount por_10 confs_12 near)) hx hb hK hP hD hS 2 0 rfl rfl (inb_in h_11) e_12 rfl dX3_place_56 (fun H locs hP hD hS => ?_)
          refine lv_aload_n hx hb dX3_place_57 rfl (lv_at hl 1 rfl) ?_
          refine va_get (D := (dC, dI)) (ci := 2) (v := .ref q_near) (C := RX3) (T := TX3) (N := 12) hx hb hts hn_X3_place_X3 hown hK hP 0 rfl rfl 2 (by decide) (hts (.fieldLink RX3 20 "MetAgents$Reach" "nearness" "[I") (List.mem_of_getElem? (i := 4) rfl)) (fun _ h9 => h9) rfl dX3_place_58 ?_
          refine lv_aload_n hx hb dX3_place_61 rfl (lv_at hl 1 rfl) ?_
          refine va_get (D := (dC, dI)) (ci := 2) (v := .int rCount) (C := RX3) (T := TX3) (N := 12) hx hb hts hn_X3_place_X3 hown hK hP 0 rfl rfl 11 (by decide) (hts (.fieldLink RX3 60 "MetAgents$Reach" "count" "I") (List.mem_of_getElem? (i := 2) rfl)) (fun _ h9 => h9) rfl dX3_place_62 ?_
          refine lv_iload_n hx hb dX3_place_65 rfl (lv_at hl 3 rfl) ?_
          obtain ⟨h_13, hf⟩ := gd_el hf
          obtain ⟨near_14, e_14, hf⟩ := nm_el hf
          refine ast_i (w2 := (w_X3_place cyI cyJ cyZ qE q_por q_confs q_near q_leads q_agrees q_answers q_hopes q_opens q_most q_ready rRules rCount por_10 confs_12 near_14)) hx hb hK hP hD hS 3 0 rfl rfl (inb_in h_13) e_14 rfl dX3_place_66 (fun H locs hP hD hS => ?_)
          refine lv_aload_n hx hb dX3_place_67 rfl (lv_at hl 1 rfl) ?_
          refine lv_dup hx hb dX3_place_68 rfl ?_
          refine va_get (D := (dC, dI)) (ci := 2) (v := .int rCount) (C := RX3) (T := TX3) (N := 12) hx hb hts hn_X3_place_X3 hown hK hP 0 rfl rfl 11 (by decide) (hts (.fieldLink RX3 60 "MetAgents$Reach" "count" "I") (List.mem_of_getElem? (i := 2) rfl)) (fun _ h9 => h9) rfl dX3_place_69 ?_
          refine lv_iconst (v := 1) hx hb dX3_place_72 (by decide) ?_
          refine lv_iadd hx hb dX3_place_73 ?_
          obtain ⟨rCount_15, e_15, hf⟩ := nm_el hf
          refine top_i e_15 ?_
          refine va_put (D := (dC, dI)) (ci := 2) (v := .int rCount_15) (ty := .int) (C := RX3) (T := TX3) (N := 12) hx hb hts hn_X3_place_X3 tyX3 tyX3_ok nmX3 hown hK hP hD hS 0 rfl rfl 11 (by decide) (hts (.fieldLink RX3 60 "MetAgents$Reach" "count" "I") (List.mem_of_getElem? (i := 2) rfl)) (fun _ h9 => h9) rfl (by decide +kernel) rfl rfl (Nat.le_of_ble_eq_true rfl) dX3_place_74 (fun H locs (hP : va_P (dC, dI) vwCl (w_X3_place cyI cyJ cyZ qE q_por q_confs q_near q_leads q_agrees q_answers q_hopes q_opens q_most q_ready rRules rCount_15 por_10 confs_12 near_14) H) (hD : va_D A (w_X3_place cyI cyJ cyZ qE q_por q_confs q_near q_leads q_agrees q_answers q_hopes q_opens q_most q_ready rRules rCount_15 por_10 confs_12 near_14)) hS => ?_)
          refine lv_aload_n hx hb dX3_place_77 rfl (lv_at hl 1 rfl) ?_
          refine va_get (D := (dC, dI)) (ci := 2) (v := .ref q_por) (C := RX3) (T := TX3) (N := 12) hx hb hts hn_X3_place_X3 hown hK hP 0 rfl rfl 0 (by decide) (hts (.fieldLink RX3 11 "MetAgents$Reach" "placeOfRank" "[I") (List.mem_of_getElem? (i := 1) rfl)) (fun _ h9 => h9) rfl dX3_place_78 ?_
          refine lv_iload_n hx hb dX3_place_81 rfl (lv_at hl 0 rfl) ?_
          obtain ⟨h_16, hf⟩ := gd_el hf
          refine va_iald hx hb hK hP 1 0 rfl rfl (inb_in h_16) dX3_place_82 ?_
          cases hf
          exact W.iret hx hb hr (fun t ht hW => ⟨⟨_, (), rfl, rfl, by rw [ht]; exact hP, va_K.moved hW.alike hK, hD⟩, hS.F ht⟩) hS.2.2 dX3_place_83
    · replace hf := it_f hf c_3
      refine lv_iconst (v := (-1)) hx hb dX3_place_16 (by decide) ?_
      cases hf
      exact W.iret hx hb hr (fun t ht hW => ⟨⟨_, (), rfl, rfl, by rw [ht]; exact hP, va_K.moved hW.alike hK, hD⟩, hS.F ht⟩) hS.2.2 dX3_place_17
set_option maxHeartbeats 4000000 in
set_option maxRecDepth 100000 in
theorem c_X3_place (l : Launch) (dC : Nat → ClassId) (dI : Nat → Nat → Nat) (cyI cyJ cyZ : ClassId) (qE q_por q_confs q_near q_leads q_agrees q_answers q_hopes q_opens q_most q_ready : Nat) (tC : Nat) (sz N : Nat) (x1 : Int32) (x2 : Int32) (rCount : Int32) (por : Nat → Int32) (confs : Nat → Int32) (near : Nat → Int32) (rRules : Int32) (r9 : Int32) (rCount9 : Int32) (por9 : Nat → Int32) (confs9 : Nat → Int32) (near9 : Nat → Int32) (hf : f_X3_place N x1 x2 rCount por confs near = some (r9, rCount9, por9, confs9, near9)) : Met l yX3_place wsX3_place rm_X3_place (Pz dC dI cyI cyJ cyZ [.ref qE, .int x1, .int x2] sz (w_X3_place cyI cyJ cyZ qE q_por q_confs q_near q_leads q_agrees q_answers q_hopes q_opens q_most q_ready rRules rCount por confs near) (XC tC)) (Qzi dC dI cyI cyJ cyZ (va_A (w_X3_place cyI cyJ cyZ qE q_por q_confs q_near q_leads q_agrees q_answers q_hopes q_opens q_most q_ready rRules rCount por confs near) sz) (w_X3_place cyI cyJ cyZ qE q_por q_confs q_near q_leads q_agrees q_answers q_hopes q_opens q_most q_ready rRules rCount9 por9 confs9 near9) r9) 0 0 (va_A (w_X3_place cyI cyJ cyZ qE q_por q_confs q_near q_leads q_agrees q_answers q_hopes q_opens q_most q_ready rRules rCount por confs near) sz) := by
  refine Met_of (cc := cX3_place) (maxL := 4) (ret := (some .int)) (by decide) rfl (Nat.le_of_ble_eq_true rfl) ?_
  intro p e s m args below meth c ls C0 hsz hXs hP hD hS hl
  exact t_X3_place C0 hXs hf s.heap [] ls hP hD hS hl
abbrev w_X3_follow (cyI cyJ cyZ : ClassId) (qE q_por q_confs q_near q_leads q_agrees q_answers q_hopes q_opens q_most q_ready : Nat) (rRules : Int32) (rCount : Int32) (por : Nat → Int32) (confs : Nat → Int32) (near : Nat → Int32) : va_W := [(qE, .inr (2, [.ref q_por, .ref q_confs, .ref q_near, .ref q_leads, .ref q_agrees, .ref q_answers, .ref q_hopes, .ref q_opens, .ref q_most, .ref q_ready, .int rRules, .int rCount])), (q_por, .inl (cyI, 462, .inl por)), (q_confs, .inl (cyI, 462, .inl confs)), (q_near, .inl (cyI, 462, .inl near))]
abbrev rm_X3_follow : Room := { frames := 3, cells := 0, slots := 0, locals := 67 }
theorem hn_X3_follow_X3 : ∀ w ∈ wsX30, w ∈ wsX3_follow := fun _ h => List.mem_cons_of_mem _ (List.mem_append_right _ h)
def f_X3_follow (N : Nat) (x1 : Int32) (x2 : Int32) (x3 : Int32) (rCount : Int32) (por : Nat → Int32) (confs : Nat → Int32) (near : Nat → Int32) : Option (Int32 × Int32 × (Nat → Int32) × (Nat → Int32) × (Nat → Int32)) :=
  gd (inb x1 462) (nm (confs x1.toNatClampNeg) (fun x4_2 => (if x2 = x3 then some ((-1), rCount, por, confs, near) else bd1 (f_X1_meetingsOf N x4_2 x2) (fun r_4 => (if r_4 = 0 then some ((-1), rCount, por, confs, near) else bd1 (f_X1_behind N x4_2 x2 x3) (fun r_6 => gd (inb x1 462) (bd5 (f_X3_place N r_6 ((near x1.toNatClampNeg) + 1) rCount por confs near) (fun r_8 rCount_9 por_10 confs_11 near_12 => some (r_8, rCount_9, por_10, confs_11, near_12)))))))))
set_option maxHeartbeats 4000000 in
set_option maxRecDepth 100000 in
theorem t_X3_follow (C0 : Cx p s m args meth c cX3_follow (some .int) 5 RX3 wsX3_follow A dC dI cyI cyJ cyZ) {qE q_por q_confs q_near q_leads q_agrees q_answers q_hopes q_opens q_most q_ready : Nat} {tC : Nat} (hXs : (XC tC) A s) {N : Nat} {x1 : Int32} {x2 : Int32} {x3 : Int32} {rCount : Int32} {por : Nat → Int32} {confs : Nat → Int32} {near : Nat → Int32} {rRules : Int32} {r9 : Int32} {rCount9 : Int32} {por9 : Nat → Int32} {confs9 : Nat → Int32} {near9 : Nat → Int32} (hf : f_X3_follow N x1 x2 x3 rCount por confs near = some (r9, rCount9, por9, confs9, near9)) (H : Heap) (locs : List Loc) (ls : Array Slot) (hP : va_P (dC, dI) vwCl (w_X3_follow cyI cyJ cyZ qE q_por q_confs q_near q_leads q_agrees q_answers q_hopes q_opens q_most q_ready rRules rCount por confs near) H) (hD : va_D A (w_X3_follow cyI cyJ cyZ qE q_por q_confs q_near q_leads q_agrees q_answers q_hopes q_opens q_most q_ready rRules rCount por confs near)) (hS : va_S A s.heap H locs) (hl : lv_has ls 5 [(0, .ref qE), (1, .int x1), (2, .int x2), (3, .int x3)]) : W p l e rm_X3_follow s m args below meth c H locs 0 0 (MQ below (Qzi dC dI cyI cyJ cyZ A (w_X3_follow cyI cyJ cyZ qE q_por q_confs q_near q_leads q_agrees q_answers q_hopes q_opens q_most q_ready rRules rCount9 por9 confs9 near9) r9) args s 0 0 A) (F0 m 0 ls []) := by
  have C1 := C0
  obtain ⟨hx, hb, hr, hlocks, hml, hown, hts, hA, hK⟩ := C1
  unfold f_X3_follow at hf
  refine lv_aload_n hx hb dX3_follow_0 rfl (lv_at hl 0 rfl) ?_
  refine va_get (D := (dC, dI)) (ci := 2) (v := .ref q_confs) (C := RX3) (T := TX3) (N := 12) hx hb hts hn_X3_follow_X3 hown hK hP 0 rfl rfl 1 (by decide) (hts (.fieldLink RX3 17 "MetAgents$Reach" "configurations" "[I") (List.mem_of_getElem? (i := 1) rfl)) (fun _ h9 => h9) rfl dX3_follow_1 ?_
  refine lv_iload_n hx hb dX3_follow_4 rfl (lv_at hl 1 rfl) ?_
  obtain ⟨h_1, hf⟩ := gd_el hf
  refine va_iald hx hb hK hP 2 0 rfl rfl (inb_in h_1) dX3_follow_5 ?_
  obtain ⟨x4_2, e_2, hf⟩ := nm_el hf
  refine top_i e_2 ?_
  refine lv_istore (lv' := [(4, .int x4_2), (0, .ref qE), (1, .int x1), (2, .int x2), (3, .int x3)]) hx hb dX3_follow_6 hl (by decide) rfl (fun ls hl => ?_)
  refine lv_iload_n hx hb dX3_follow_8 rfl (lv_at hl 3 rfl) ?_
  refine lv_iload_n hx hb dX3_follow_9 rfl (lv_at hl 4 rfl) ?_
  refine lv_icmp_eq (tgt := 22) hx hb dX3_follow_10 (by decide) (fun c_3 => ?_) (fun c_3 => ?_)
  · replace hf := it_t hf c_3
    refine lv_iconst (v := (-1)) hx hb dX3_follow_22 (by decide) ?_
    cases hf
    exact W.iret hx hb hr (fun t ht hW => ⟨⟨_, (), rfl, rfl, by rw [ht]; exact hP, va_K.moved hW.alike hK, hD⟩, hS.F ht⟩) hS.2.2 dX3_follow_23
  · replace hf := it_f hf c_3
    refine lv_iload hx hb dX3_follow_13 (lv_at hl 0 rfl) ?_
    refine lv_iload_n hx hb dX3_follow_15 rfl (lv_at hl 3 rfl) ?_
    obtain ⟨r_4, hc, hf⟩ := bd1_el hf
    refine cl_i (wc := (w_X1_meetingsOf cyI cyJ cyZ)) (wr := [(qE, .inr (2, [.ref q_por, .ref q_confs, .ref q_near, .ref q_leads, .ref q_agrees, .ref q_answers, .ref q_hopes, .ref q_opens, .ref q_most, .ref q_ready, .int rRules, .int rCount])), (q_por, .inl (cyI, 462, .inl por)), (q_confs, .inl (cyI, 462, .inl confs)), (q_near, .inl (cyI, 462, .inl near))]) (w1 := (w_X1_meetingsOf cyI cyJ cyZ)) (w2 := (w_X3_follow cyI cyJ cyZ qE q_por q_confs q_near q_leads q_agrees q_answers q_hopes q_opens q_most q_ready rRules rCount por confs near)) C0 (rn_S (As := [.int x4_2, .int x2]) (rest := []) (wc := (w_X1_meetingsOf cyI cyJ cyZ)) (X := X0) C0 (c_X1_meetingsOf l dC dI cyI cyJ cyZ H.size N x4_2 x2 r_4 hc) (va_cwS 2 hts gX3_follow_X1_meetingsOf rfl rfl rfl (by decide +kernel) ⟨Nat.le_of_ble_eq_true rfl, Nat.le_of_ble_eq_true rfl⟩) X0_car trivial hP hD hS [] rfl rfl rfl hl.1 rfl (Nat.le_of_ble_eq_true rfl) dX3_follow_16 ⟨Nat.le_of_ble_eq_true rfl, Nat.le_of_ble_eq_true rfl⟩) hP hD hS [] [0, 1, 2, 3] [0, 1, 2, 3] rfl rfl rfl (by decide) rfl rfl (fun H locs hP hD hS => ?_)
    refine lv_if_ne (tgt := 24) hx hb dX3_follow_19 (by decide) (fun c_5 => ?_) (fun c_5 => ?_)
    · replace hf := it_f hf c_5
      refine lv_aload_n hx hb dX3_follow_24 rfl (lv_at hl 1 rfl) ?_
      refine lv_iload hx hb dX3_follow_25 (lv_at hl 0 rfl) ?_
      refine lv_iload_n hx hb dX3_follow_27 rfl (lv_at hl 3 rfl) ?_
      refine lv_iload_n hx hb dX3_follow_28 rfl (lv_at hl 4 rfl) ?_
      obtain ⟨r_6, hc, hf⟩ := bd1_el hf
      refine cl_i (wc := (w_X1_behind cyI cyJ cyZ)) (wr := [(qE, .inr (2, [.ref q_por, .ref q_confs, .ref q_near, .ref q_leads, .ref q_agrees, .ref q_answers, .ref q_hopes, .ref q_opens, .ref q_most, .ref q_ready, .int rRules, .int rCount])), (q_por, .inl (cyI, 462, .inl por)), (q_confs, .inl (cyI, 462, .inl confs)), (q_near, .inl (cyI, 462, .inl near))]) (w1 := (w_X1_behind cyI cyJ cyZ)) (w2 := (w_X3_follow cyI cyJ cyZ qE q_por q_confs q_near q_leads q_agrees q_answers q_hopes q_opens q_most q_ready rRules rCount por confs near)) C0 (rn_S (As := [.int x4_2, .int x2, .int x3]) (rest := [.ref qE]) (wc := (w_X1_behind cyI cyJ cyZ)) (X := X0) C0 (c_X1_behind l dC dI cyI cyJ cyZ H.size N x4_2 x2 x3 r_6 hc) (va_cwS 3 hts gX3_follow_X1_behind rfl rfl rfl (by decide +kernel) ⟨Nat.le_of_ble_eq_true rfl, Nat.le_of_ble_eq_true rfl⟩) X0_car trivial hP hD hS [] rfl rfl rfl hl.1 rfl (Nat.le_of_ble_eq_true rfl) dX3_follow_29 ⟨Nat.le_of_ble_eq_true rfl, Nat.le_of_ble_eq_true rfl⟩) hP hD hS [] [0, 1, 2, 3] [0, 1, 2, 3] rfl rfl rfl (by decide) rfl rfl (fun H locs hP hD hS => ?_)
      refine lv_aload_n hx hb dX3_follow_32 rfl (lv_at hl 1 rfl) ?_
      refine va_get (D := (dC, dI)) (ci := 2) (v := .ref q_near) (C := RX3) (T := TX3) (N := 12) hx hb hts hn_X3_follow_X3 hown hK hP 0 rfl rfl 2 (by decide) (hts (.fieldLink RX3 20 "MetAgents$Reach" "nearness" "[I") (List.mem_of_getElem? (i := 2) rfl)) (fun _ h9 => h9) rfl dX3_follow_33 ?_
      refine lv_iload_n hx hb dX3_follow_36 rfl (lv_at hl 2 rfl) ?_
      obtain ⟨h_7, hf⟩ := gd_el hf
      refine va_iald hx hb hK hP 3 0 rfl rfl (inb_in h_7) dX3_follow_37 ?_
      refine lv_iconst (v := 1) hx hb dX3_follow_38 (by decide) ?_
      refine lv_iadd hx hb dX3_follow_39 ?_
      obtain ⟨r_8, rCount_9, por_10, confs_11, near_12, hc, hf⟩ := bd5_el hf
      refine cl_i (wc := (w_X3_place cyI cyJ cyZ qE q_por q_confs q_near q_leads q_agrees q_answers q_hopes q_opens q_most q_ready rRules rCount por confs near)) (wr := []) (w1 := (w_X3_place cyI cyJ cyZ qE q_por q_confs q_near q_leads q_agrees q_answers q_hopes q_opens q_most q_ready rRules rCount_9 por_10 confs_11 near_12)) (w2 := (w_X3_follow cyI cyJ cyZ qE q_por q_confs q_near q_leads q_agrees q_answers q_hopes q_opens q_most q_ready rRules rCount_9 por_10 confs_11 near_12)) C0 (rn_V (As := [.int r_6, .int ((near x1.toNatClampNeg) + 1)]) (rest := []) (wc := (w_X3_place cyI cyJ cyZ qE q_por q_confs q_near q_leads q_agrees q_answers q_hopes q_opens q_most q_ready rRules rCount por confs near)) (X := (XC tC)) C0 (c_X3_place l dC dI cyI cyJ cyZ qE q_por q_confs q_near q_leads q_agrees q_answers q_hopes q_opens q_most q_ready tC H.size N r_6 ((near x1.toNatClampNeg) + 1) rCount por confs near rRules r_8 rCount_9 por_10 confs_11 near_12 hc) (cwV 2 hts gX3_follow_X3_place rfl rfl rfl (by decide +kernel) ⟨Nat.le_of_ble_eq_true rfl, Nat.le_of_ble_eq_true rfl⟩) (XC_car tC) hXs hP hD hS [0, 1, 2, 3] rfl rfl 0 2 rfl rfl rfl hl.1 rfl (Nat.le_of_ble_eq_true rfl) dX3_follow_40 ⟨Nat.le_of_ble_eq_true rfl, Nat.le_of_ble_eq_true rfl⟩) hP hD hS [0, 1, 2, 3] [] [0, 1, 2, 3] rfl rfl rfl (by decide) rfl rfl (fun H locs hP hD hS => ?_)
      cases hf
      exact W.iret hx hb hr (fun t ht hW => ⟨⟨_, (), rfl, rfl, by rw [ht]; exact hP, va_K.moved hW.alike hK, hD⟩, hS.F ht⟩) hS.2.2 dX3_follow_43
    · replace hf := it_t hf c_5
      refine lv_iconst (v := (-1)) hx hb dX3_follow_22 (by decide) ?_
      cases hf
      exact W.iret hx hb hr (fun t ht hW => ⟨⟨_, (), rfl, rfl, by rw [ht]; exact hP, va_K.moved hW.alike hK, hD⟩, hS.F ht⟩) hS.2.2 dX3_follow_23
set_option maxHeartbeats 4000000 in
set_option maxRecDepth 100000 in
theorem c_X3_follow (l : Launch) (dC : Nat → ClassId) (dI : Nat → Nat → Nat) (cyI cyJ cyZ : ClassId) (qE q_por q_confs q_near q_leads q_agrees q_answers q_hopes q_opens q_most q_ready : Nat) (tC : Nat) (sz N : Nat) (x1 : Int32) (x2 : Int32) (x3 : Int32) (rCount : Int32) (por : Nat → Int32) (confs : Nat → Int32) (near : Nat → Int32) (rRules : Int32) (r9 : Int32) (rCount9 : Int32) (por9 : Nat → Int32) (confs9 : Nat → Int32) (near9 : Nat → Int32) (hf : f_X3_follow N x1 x2 x3 rCount por confs near = some (r9, rCount9, por9, confs9, near9)) : Met l yX3_follow wsX3_follow rm_X3_follow (Pz dC dI cyI cyJ cyZ [.ref qE, .int x1, .int x2, .int x3] sz (w_X3_follow cyI cyJ cyZ qE q_por q_confs q_near q_leads q_agrees q_answers q_hopes q_opens q_most q_ready rRules rCount por confs near) (XC tC)) (Qzi dC dI cyI cyJ cyZ (va_A (w_X3_follow cyI cyJ cyZ qE q_por q_confs q_near q_leads q_agrees q_answers q_hopes q_opens q_most q_ready rRules rCount por confs near) sz) (w_X3_follow cyI cyJ cyZ qE q_por q_confs q_near q_leads q_agrees q_answers q_hopes q_opens q_most q_ready rRules rCount9 por9 confs9 near9) r9) 0 0 (va_A (w_X3_follow cyI cyJ cyZ qE q_por q_confs q_near q_leads q_agrees q_answers q_hopes q_opens q_most q_ready rRules rCount por confs near) sz) := by
  refine Met_of (cc := cX3_follow) (maxL := 5) (ret := (some .int)) (by decide) rfl (Nat.le_of_ble_eq_true rfl) ?_
  intro p e s m args below meth c ls C0 hsz hXs hP hD hS hl
  exact t_X3_follow C0 hXs hf s.heap [] ls hP hD hS hl
abbrev w_X3_explore (cyI cyJ cyZ : ClassId) (qB q_twos q_outs qE q_por q_confs q_near q_leads q_agrees q_answers q_hopes q_opens q_most q_ready : Nat) (bCount : Int32) (rRules : Int32) (rCount : Int32) (twos : Nat → Int32) (outs : Nat → Int32) (por : Nat → Int32) (confs : Nat → Int32) (near : Nat → Int32) (leads : Nat → Int32) : va_W := [(qB, .inr (3, [.ref q_twos, .ref q_outs, .int bCount])), (qE, .inr (2, [.ref q_por, .ref q_confs, .ref q_near, .ref q_leads, .ref q_agrees, .ref q_answers, .ref q_hopes, .ref q_opens, .ref q_most, .ref q_ready, .int rRules, .int rCount])), (q_twos, .inl (cyI, 12, .inl twos)), (q_outs, .inl (cyI, 36, .inl outs)), (q_por, .inl (cyI, 462, .inl por)), (q_confs, .inl (cyI, 462, .inl confs)), (q_near, .inl (cyI, 462, .inl near)), (q_leads, .inl (cyI, 5544, .inl leads))]
abbrev rm_X3_explore : Room := { frames := 4, cells := 0, slots := 0, locals := 91 }
theorem hn_X3_explore_X3 : ∀ w ∈ wsX30, w ∈ wsX3_explore := fun _ h => List.mem_cons_of_mem _ (List.mem_append_left _ (List.mem_append_right _ h))
theorem hn_X3_explore_X4 : ∀ w ∈ wsX40, w ∈ wsX3_explore := fun _ h => List.mem_cons_of_mem _ (List.mem_append_right _ h)
def f_X3_explore_b48 (N : Nat) (x3 : Int32) (bCount : Int32) (rRules : Int32) (twos : Nat → Int32) (outs : Nat → Int32) (x4 : Int32) (rCount : Int32) (por : Nat → Int32) (confs : Nat → Int32) (near : Nat → Int32) (leads : Nat → Int32) : Option ((Int32 × Int32 × (Nat → Int32) × (Nat → Int32) × (Nat → Int32) × (Nat → Int32)) ⊕ (Int32 × (Nat → Int32) × (Nat → Int32) × (Nat → Int32) × (Nat → Int32))) :=
  (if rRules ≤ x4 then some (Sum.inr (rCount, por, confs, near, leads)) else bd1 (f_X4_twoAt N x4 twos) (fun r_10 => bd1 (f_X4_outcomeAt N x4 twos outs) (fun r_11 => bd5 (f_X3_follow N x3 r_10 r_11 rCount por confs near) (fun r_12 rCount_13 por_14 confs_15 near_16 => gd (inb ((x3 * 12) + x4) 5544) (nm (upd leads ((x3 * 12) + x4).toNatClampNeg r_12) (fun leads_18 => nm (x4 + 1) (fun x4_19 => some (Sum.inl (x4_19, rCount_13, por_14, confs_15, near_16, leads_18)))))))))
set_option maxHeartbeats 4000000 in
set_option maxRecDepth 100000 in
theorem t_X3_explore_b48 (C0 : Cx p s m args meth c cX3_explore none 5 RX3 wsX3_explore A dC dI cyI cyJ cyZ) {qB q_twos q_outs qE q_por q_confs q_near q_leads q_agrees q_answers q_hopes q_opens q_most q_ready : Nat} {tC : Nat} (hXs : (XC tC) A s) {N : Nat} {x3 : Int32} {bCount : Int32} {rRules : Int32} {twos : Nat → Int32} {outs : Nat → Int32} {x4 : Int32} {rCount : Int32} {por : Nat → Int32} {confs : Nat → Int32} {near : Nat → Int32} {leads : Nat → Int32} {rRules9 : Int32} {rCount9 : Int32} {por9 : Nat → Int32} {confs9 : Nat → Int32} {near9 : Nat → Int32} {leads9 : Nat → Int32} {r : (Int32 × Int32 × (Nat → Int32) × (Nat → Int32) × (Nat → Int32) × (Nat → Int32)) ⊕ (Int32 × (Nat → Int32) × (Nat → Int32) × (Nat → Int32) × (Nat → Int32))} (hf : f_X3_explore_b48 N x3 bCount rRules twos outs x4 rCount por confs near leads = some r) (Kh : ∀ (zx4 : Int32) (zrCount : Int32) (zpor : Nat → Int32) (zconfs : Nat → Int32) (znear : Nat → Int32) (zleads : Nat → Int32), r = Sum.inl (zx4, zrCount, zpor, zconfs, znear, zleads) → ∀ (H : Heap) (locs : List Loc) (ls : Array Slot), va_P (dC, dI) vwCl (w_X3_explore cyI cyJ cyZ qB q_twos q_outs qE q_por q_confs q_near q_leads q_agrees q_answers q_hopes q_opens q_most q_ready bCount rRules zrCount twos outs zpor zconfs znear zleads) H → va_D A (w_X3_explore cyI cyJ cyZ qB q_twos q_outs qE q_por q_confs q_near q_leads q_agrees q_answers q_hopes q_opens q_most q_ready bCount rRules zrCount twos outs zpor zconfs znear zleads) → va_S A s.heap H locs → lv_has ls 5 [(0, .ref qE), (1, .ref qB), (3, .int x3), (4, .int zx4)] → W p l e rm_X3_explore s m args below meth c H locs 0 0 (MQ below (Qzv dC dI cyI cyJ cyZ A (w_X3_explore cyI cyJ cyZ qB q_twos q_outs qE q_por q_confs q_near q_leads q_agrees q_answers q_hopes q_opens q_most q_ready bCount rRules9 rCount9 twos outs por9 confs9 near9 leads9)) args s 0 0 A) (F0 m 48 ls [])) (Ke : ∀ (zrCount : Int32) (zpor : Nat → Int32) (zconfs : Nat → Int32) (znear : Nat → Int32) (zleads : Nat → Int32), r = Sum.inr (zrCount, zpor, zconfs, znear, zleads) → ∀ (H : Heap) (locs : List Loc) (ls : Array Slot), va_P (dC, dI) vwCl (w_X3_explore cyI cyJ cyZ qB q_twos q_outs qE q_por q_confs q_near q_leads q_agrees q_answers q_hopes q_opens q_most q_ready bCount rRules zrCount twos outs zpor zconfs znear zleads) H → va_D A (w_X3_explore cyI cyJ cyZ qB q_twos q_outs qE q_por q_confs q_near q_leads q_agrees q_answers q_hopes q_opens q_most q_ready bCount rRules zrCount twos outs zpor zconfs znear zleads) → va_S A s.heap H locs → lv_has ls 5 [(0, .ref qE), (1, .ref qB), (3, .int x3)] → W p l e rm_X3_explore s m args below meth c H locs 0 0 (MQ below (Qzv dC dI cyI cyJ cyZ A (w_X3_explore cyI cyJ cyZ qB q_twos q_outs qE q_por q_confs q_near q_leads q_agrees q_answers q_hopes q_opens q_most q_ready bCount rRules9 rCount9 twos outs por9 confs9 near9 leads9)) args s 0 0 A) (F0 m 92 ls [])) (H : Heap) (locs : List Loc) (ls : Array Slot) (hP : va_P (dC, dI) vwCl (w_X3_explore cyI cyJ cyZ qB q_twos q_outs qE q_por q_confs q_near q_leads q_agrees q_answers q_hopes q_opens q_most q_ready bCount rRules rCount twos outs por confs near leads) H) (hD : va_D A (w_X3_explore cyI cyJ cyZ qB q_twos q_outs qE q_por q_confs q_near q_leads q_agrees q_answers q_hopes q_opens q_most q_ready bCount rRules rCount twos outs por confs near leads)) (hS : va_S A s.heap H locs) (hl : lv_has ls 5 [(0, .ref qE), (1, .ref qB), (3, .int x3), (4, .int x4)]) : W p l e rm_X3_explore s m args below meth c H locs 0 0 (MQ below (Qzv dC dI cyI cyJ cyZ A (w_X3_explore cyI cyJ cyZ qB q_twos q_outs qE q_por q_confs q_near q_leads q_agrees q_answers q_hopes q_opens q_most q_ready bCount rRules9 rCount9 twos outs por9 confs9 near9 leads9)) args s 0 0 A) (F0 m 48 ls []) := by
  have C1 := C0
  obtain ⟨hx, hb, hr, hlocks, hml, hown, hts, hA, hK⟩ := C1
  unfold f_X3_explore_b48 at hf
  refine lv_iload hx hb dX3_explore_48 (lv_at hl 3 rfl) ?_
  refine lv_aload_n hx hb dX3_explore_50 rfl (lv_at hl 0 rfl) ?_
  refine va_get (D := (dC, dI)) (ci := 2) (v := .int rRules) (C := RX3) (T := TX3) (N := 12) hx hb hts hn_X3_explore_X3 hown hK hP 1 rfl rfl 10 (by decide) (hts (.fieldLink RX3 57 "MetAgents$Reach" "rules" "I") (List.mem_of_getElem? (i := 3) rfl)) (fun _ h9 => h9) rfl dX3_explore_51 ?_
  refine lv_icmp_ge (tgt := 92) hx hb dX3_explore_54 (by decide) (fun c_9 => ?_) (fun c_9 => ?_)
  · replace hf := it_t hf c_9
    exact Ke _ _ _ _ _ (Option.some.inj hf).symm H locs ls hP hD hS (lv_sub hl [0, 1, 2] rfl)
  · replace hf := it_f hf c_9
    refine lv_aload_n hx hb dX3_explore_57 rfl (lv_at hl 0 rfl) ?_
    refine va_get (D := (dC, dI)) (ci := 2) (v := .ref q_leads) (C := RX3) (T := TX3) (N := 12) hx hb hts hn_X3_explore_X3 hown hK hP 1 rfl rfl 3 (by decide) (hts (.fieldLink RX3 23 "MetAgents$Reach" "leads" "[I") (List.mem_of_getElem? (i := 5) rfl)) (fun _ h9 => h9) rfl dX3_explore_58 ?_
    refine lv_iload_n hx hb dX3_explore_61 rfl (lv_at hl 2 rfl) ?_
    refine lv_bipush (v := 12) hx hb dX3_explore_62 (by decide) ?_
    refine lv_imul hx hb dX3_explore_64 ?_
    refine lv_iload hx hb dX3_explore_65 (lv_at hl 3 rfl) ?_
    refine lv_iadd hx hb dX3_explore_67 ?_
    refine lv_aload_n hx hb dX3_explore_68 rfl (lv_at hl 0 rfl) ?_
    refine lv_iload_n hx hb dX3_explore_69 rfl (lv_at hl 2 rfl) ?_
    refine lv_aload_n hx hb dX3_explore_70 rfl (lv_at hl 1 rfl) ?_
    refine lv_iload hx hb dX3_explore_71 (lv_at hl 3 rfl) ?_
    obtain ⟨r_10, hc, hf⟩ := bd1_el hf
    refine cl_i (wc := (w_X4_twoAt cyI cyJ cyZ qB q_twos q_outs bCount twos)) (wr := [(qE, .inr (2, [.ref q_por, .ref q_confs, .ref q_near, .ref q_leads, .ref q_agrees, .ref q_answers, .ref q_hopes, .ref q_opens, .ref q_most, .ref q_ready, .int rRules, .int rCount])), (q_outs, .inl (cyI, 36, .inl outs)), (q_por, .inl (cyI, 462, .inl por)), (q_confs, .inl (cyI, 462, .inl confs)), (q_near, .inl (cyI, 462, .inl near)), (q_leads, .inl (cyI, 5544, .inl leads))]) (w1 := (w_X4_twoAt cyI cyJ cyZ qB q_twos q_outs bCount twos)) (w2 := (w_X3_explore cyI cyJ cyZ qB q_twos q_outs qE q_por q_confs q_near q_leads q_agrees q_answers q_hopes q_opens q_most q_ready bCount rRules rCount twos outs por confs near leads)) C0 (rn_V (As := [.int x4]) (rest := [.int x3, .ref qE, .int ((x3 * 12) + x4), .ref q_leads]) (wc := (w_X4_twoAt cyI cyJ cyZ qB q_twos q_outs bCount twos)) (X := X0) C0 (c_X4_twoAt l dC dI cyI cyJ cyZ qB q_twos q_outs H.size N x4 twos bCount r_10 hc) (cwV 1 hts gX3_explore_X4_twoAt rfl rfl rfl (by decide +kernel) ⟨Nat.le_of_ble_eq_true rfl, Nat.le_of_ble_eq_true rfl⟩) X0_car trivial hP hD hS [0, 2] rfl rfl 0 3 rfl rfl rfl hl.1 rfl (Nat.le_of_ble_eq_true rfl) dX3_explore_73 ⟨Nat.le_of_ble_eq_true rfl, Nat.le_of_ble_eq_true rfl⟩) hP hD hS [0, 2] [1, 3, 4, 5, 6, 7] [6, 0, 7, 1, 2, 3, 4, 5] rfl rfl rfl (by decide) rfl rfl (fun H locs hP hD hS => ?_)
    refine lv_aload_n hx hb dX3_explore_76 rfl (lv_at hl 1 rfl) ?_
    refine lv_iload hx hb dX3_explore_77 (lv_at hl 3 rfl) ?_
    obtain ⟨r_11, hc, hf⟩ := bd1_el hf
    refine cl_i (wc := (w_X4_outcomeAt cyI cyJ cyZ qB q_twos q_outs bCount twos outs)) (wr := [(qE, .inr (2, [.ref q_por, .ref q_confs, .ref q_near, .ref q_leads, .ref q_agrees, .ref q_answers, .ref q_hopes, .ref q_opens, .ref q_most, .ref q_ready, .int rRules, .int rCount])), (q_por, .inl (cyI, 462, .inl por)), (q_confs, .inl (cyI, 462, .inl confs)), (q_near, .inl (cyI, 462, .inl near)), (q_leads, .inl (cyI, 5544, .inl leads))]) (w1 := (w_X4_outcomeAt cyI cyJ cyZ qB q_twos q_outs bCount twos outs)) (w2 := (w_X3_explore cyI cyJ cyZ qB q_twos q_outs qE q_por q_confs q_near q_leads q_agrees q_answers q_hopes q_opens q_most q_ready bCount rRules rCount twos outs por confs near leads)) C0 (rn_V (As := [.int x4]) (rest := [.int r_10, .int x3, .ref qE, .int ((x3 * 12) + x4), .ref q_leads]) (wc := (w_X4_outcomeAt cyI cyJ cyZ qB q_twos q_outs bCount twos outs)) (X := X0) C0 (c_X4_outcomeAt l dC dI cyI cyJ cyZ qB q_twos q_outs H.size N x4 twos outs bCount r_11 hc) (cwV 1 hts gX3_explore_X4_outcomeAt rfl rfl rfl (by decide +kernel) ⟨Nat.le_of_ble_eq_true rfl, Nat.le_of_ble_eq_true rfl⟩) X0_car trivial hP hD hS [0, 2, 3] rfl rfl 0 3 rfl rfl rfl hl.1 rfl (Nat.le_of_ble_eq_true rfl) dX3_explore_79 ⟨Nat.le_of_ble_eq_true rfl, Nat.le_of_ble_eq_true rfl⟩) hP hD hS [0, 2, 3] [1, 4, 5, 6, 7] [5, 0, 6, 7, 1, 2, 3, 4] rfl rfl rfl (by decide) rfl rfl (fun H locs hP hD hS => ?_)
    obtain ⟨r_12, rCount_13, por_14, confs_15, near_16, hc, hf⟩ := bd5_el hf
    refine cl_i (wc := (w_X3_follow cyI cyJ cyZ qE q_por q_confs q_near q_leads q_agrees q_answers q_hopes q_opens q_most q_ready rRules rCount por confs near)) (wr := [(qB, .inr (3, [.ref q_twos, .ref q_outs, .int bCount])), (q_twos, .inl (cyI, 12, .inl twos)), (q_outs, .inl (cyI, 36, .inl outs)), (q_leads, .inl (cyI, 5544, .inl leads))]) (w1 := (w_X3_follow cyI cyJ cyZ qE q_por q_confs q_near q_leads q_agrees q_answers q_hopes q_opens q_most q_ready rRules rCount_13 por_14 confs_15 near_16)) (w2 := (w_X3_explore cyI cyJ cyZ qB q_twos q_outs qE q_por q_confs q_near q_leads q_agrees q_answers q_hopes q_opens q_most q_ready bCount rRules rCount_13 twos outs por_14 confs_15 near_16 leads)) C0 (rn_V (As := [.int x3, .int r_10, .int r_11]) (rest := [.int ((x3 * 12) + x4), .ref q_leads]) (wc := (w_X3_follow cyI cyJ cyZ qE q_por q_confs q_near q_leads q_agrees q_answers q_hopes q_opens q_most q_ready rRules rCount por confs near)) (X := (XC tC)) C0 (c_X3_follow l dC dI cyI cyJ cyZ qE q_por q_confs q_near q_leads q_agrees q_answers q_hopes q_opens q_most q_ready tC H.size N x3 r_10 r_11 rCount por confs near rRules r_12 rCount_13 por_14 confs_15 near_16 hc) (cwV 3 hts gX3_explore_X3_follow rfl rfl rfl (by decide +kernel) ⟨Nat.le_of_ble_eq_true rfl, Nat.le_of_ble_eq_true rfl⟩) (XC_car tC) hXs hP hD hS [1, 4, 5, 6] rfl rfl 1 2 rfl rfl rfl hl.1 rfl (Nat.le_of_ble_eq_true rfl) dX3_explore_82 ⟨Nat.le_of_ble_eq_true rfl, Nat.le_of_ble_eq_true rfl⟩) hP hD hS [1, 4, 5, 6] [0, 2, 3, 7] [0, 4, 1, 2, 5, 6, 7, 3] rfl rfl rfl (by decide) rfl rfl (fun H locs hP hD hS => ?_)
    obtain ⟨h_17, hf⟩ := gd_el hf
    obtain ⟨leads_18, e_18, hf⟩ := nm_el hf
    refine ast_i (w2 := (w_X3_explore cyI cyJ cyZ qB q_twos q_outs qE q_por q_confs q_near q_leads q_agrees q_answers q_hopes q_opens q_most q_ready bCount rRules rCount_13 twos outs por_14 confs_15 near_16 leads_18)) hx hb hK hP hD hS 7 0 rfl rfl (inb_in h_17) e_18 rfl dX3_explore_85 (fun H locs hP hD hS => ?_)
    obtain ⟨x4_19, e_19, hf⟩ := nm_el hf
    refine lv_iinc (v := x4_19) (lv' := [(4, .int x4_19), (0, .ref qE), (1, .ref qB), (3, .int x3)]) hx hb dX3_explore_86 hl (k := 3) rfl (by rw [e_19]; rfl) (by decide) rfl (fun ls hl => ?_)
    refine lv_goto (tgt := 48) hx hb dX3_explore_89 (by decide) ?_
    exact Kh _ _ _ _ _ _ (Option.some.inj hf).symm H locs ls hP hD hS (lv_sub hl [1, 2, 3, 0] rfl)
set_option maxHeartbeats 4000000 in
set_option maxRecDepth 100000 in
theorem l_X3_explore_b48 (C0 : Cx p s m args meth c cX3_explore none 5 RX3 wsX3_explore A dC dI cyI cyJ cyZ) {qB q_twos q_outs qE q_por q_confs q_near q_leads q_agrees q_answers q_hopes q_opens q_most q_ready : Nat} {tC : Nat} (hXs : (XC tC) A s) {N : Nat} {x3 : Int32} {bCount : Int32} {rRules : Int32} {twos : Nat → Int32} {outs : Nat → Int32} {rRules9 : Int32} {rCount9 : Int32} {por9 : Nat → Int32} {confs9 : Nat → Int32} {near9 : Nat → Int32} {leads9 : Nat → Int32} {z : Int32 × (Nat → Int32) × (Nat → Int32) × (Nat → Int32) × (Nat → Int32)} (Ke : ∀ (zrCount : Int32) (zpor : Nat → Int32) (zconfs : Nat → Int32) (znear : Nat → Int32) (zleads : Nat → Int32), z = (zrCount, zpor, zconfs, znear, zleads) → ∀ (H : Heap) (locs : List Loc) (ls : Array Slot), va_P (dC, dI) vwCl (w_X3_explore cyI cyJ cyZ qB q_twos q_outs qE q_por q_confs q_near q_leads q_agrees q_answers q_hopes q_opens q_most q_ready bCount rRules zrCount twos outs zpor zconfs znear zleads) H → va_D A (w_X3_explore cyI cyJ cyZ qB q_twos q_outs qE q_por q_confs q_near q_leads q_agrees q_answers q_hopes q_opens q_most q_ready bCount rRules zrCount twos outs zpor zconfs znear zleads) → va_S A s.heap H locs → lv_has ls 5 [(0, .ref qE), (1, .ref qB), (3, .int x3)] → W p l e rm_X3_explore s m args below meth c H locs 0 0 (MQ below (Qzv dC dI cyI cyJ cyZ A (w_X3_explore cyI cyJ cyZ qB q_twos q_outs qE q_por q_confs q_near q_leads q_agrees q_answers q_hopes q_opens q_most q_ready bCount rRules9 rCount9 twos outs por9 confs9 near9 leads9)) args s 0 0 A) (F0 m 92 ls [])) : ∀ (n9 : Nat) (x4 : Int32) (rCount : Int32) (por : Nat → Int32) (confs : Nat → Int32) (near : Nat → Int32) (leads : Nat → Int32), loopN (fun (w9 : Int32 × Int32 × (Nat → Int32) × (Nat → Int32) × (Nat → Int32) × (Nat → Int32)) => f_X3_explore_b48 N x3 bCount rRules twos outs w9.1 w9.2.1 w9.2.2.1 w9.2.2.2.1 w9.2.2.2.2.1 w9.2.2.2.2.2) n9 (x4, rCount, por, confs, near, leads) = some z → ∀ (H : Heap) (locs : List Loc) (ls : Array Slot), va_P (dC, dI) vwCl (w_X3_explore cyI cyJ cyZ qB q_twos q_outs qE q_por q_confs q_near q_leads q_agrees q_answers q_hopes q_opens q_most q_ready bCount rRules rCount twos outs por confs near leads) H → va_D A (w_X3_explore cyI cyJ cyZ qB q_twos q_outs qE q_por q_confs q_near q_leads q_agrees q_answers q_hopes q_opens q_most q_ready bCount rRules rCount twos outs por confs near leads) → va_S A s.heap H locs → lv_has ls 5 [(0, .ref qE), (1, .ref qB), (3, .int x3), (4, .int x4)] → W p l e rm_X3_explore s m args below meth c H locs 0 0 (MQ below (Qzv dC dI cyI cyJ cyZ A (w_X3_explore cyI cyJ cyZ qB q_twos q_outs qE q_por q_confs q_near q_leads q_agrees q_answers q_hopes q_opens q_most q_ready bCount rRules9 rCount9 twos outs por9 confs9 near9 leads9)) args s 0 0 A) (F0 m 48 ls []) := by
  intro n9
  induction n9 with
  | zero => intro _ _ _ _ _ _ h; cases h
  | succ n9 ih =>
    intro x4 rCount por confs near leads h H locs ls hP hD hS hl
    rcases loopN_el h with ⟨y9, h1, h2⟩ | h1
    · exact t_X3_explore_b48 C0 hXs  h1 (fun zx4 zrCount zpor zconfs znear zleads q9 H locs ls hP hD hS hl => ih zx4 zrCount zpor zconfs znear zleads (by cases q9; exact h2) H locs ls hP hD hS hl) (fun _ _ _ _ _ q9 => by cases q9) H locs ls hP hD hS hl
    · exact t_X3_explore_b48 C0 hXs  h1 (fun _ _ _ _ _ _ q9 => by cases q9) (fun erCount epor econfs enear eleads q9 => Ke erCount epor econfs enear eleads (by cases q9; rfl)) H locs ls hP hD hS hl
def f_X3_explore_b30 (N : Nat) (bCount : Int32) (rRules : Int32) (twos : Nat → Int32) (outs : Nat → Int32) (x3 : Int32) (rCount : Int32) (por : Nat → Int32) (confs : Nat → Int32) (near : Nat → Int32) (leads : Nat → Int32) : Option ((Int32 × Int32 × (Nat → Int32) × (Nat → Int32) × (Nat → Int32) × (Nat → Int32)) ⊕ (Int32 × (Nat → Int32) × (Nat → Int32) × (Nat → Int32) × (Nat → Int32))) :=
  (if rCount ≤ x3 then some (Sum.inr (rCount, por, confs, near, leads)) else (if 462 ≤ x3 then some (Sum.inr (rCount, por, confs, near, leads)) else bd5 (loopN (fun (w9 : Int32 × Int32 × (Nat → Int32) × (Nat → Int32) × (Nat → Int32) × (Nat → Int32)) => f_X3_explore_b48 N x3 bCount rRules twos outs w9.1 w9.2.1 w9.2.2.1 w9.2.2.2.1 w9.2.2.2.2.1 w9.2.2.2.2.2) N (0, rCount, por, confs, near, leads)) (fun rCount_20 por_21 confs_22 near_23 leads_24 => nm (x3 + 1) (fun x3_25 => some (Sum.inl (x3_25, rCount_20, por_21, confs_22, near_23, leads_24))))))
set_option maxHeartbeats 4000000 in
set_option maxRecDepth 100000 in
theorem t_X3_explore_b30 (C0 : Cx p s m args meth c cX3_explore none 5 RX3 wsX3_explore A dC dI cyI cyJ cyZ) {qB q_twos q_outs qE q_por q_confs q_near q_leads q_agrees q_answers q_hopes q_opens q_most q_ready : Nat} {tC : Nat} (hXs : (XC tC) A s) {N : Nat} {bCount : Int32} {rRules : Int32} {twos : Nat → Int32} {outs : Nat → Int32} {x3 : Int32} {rCount : Int32} {por : Nat → Int32} {confs : Nat → Int32} {near : Nat → Int32} {leads : Nat → Int32} {rRules9 : Int32} {rCount9 : Int32} {por9 : Nat → Int32} {confs9 : Nat → Int32} {near9 : Nat → Int32} {leads9 : Nat → Int32} {r : (Int32 × Int32 × (Nat → Int32) × (Nat → Int32) × (Nat → Int32) × (Nat → Int32)) ⊕ (Int32 × (Nat → Int32) × (Nat → Int32) × (Nat → Int32) × (Nat → Int32))} (hf : f_X3_explore_b30 N bCount rRules twos outs x3 rCount por confs near leads = some r) (Kh : ∀ (zx3 : Int32) (zrCount : Int32) (zpor : Nat → Int32) (zconfs : Nat → Int32) (znear : Nat → Int32) (zleads : Nat → Int32), r = Sum.inl (zx3, zrCount, zpor, zconfs, znear, zleads) → ∀ (H : Heap) (locs : List Loc) (ls : Array Slot), va_P (dC, dI) vwCl (w_X3_explore cyI cyJ cyZ qB q_twos q_outs qE q_por q_confs q_near q_leads q_agrees q_answers q_hopes q_opens q_most q_ready bCount rRules zrCount twos outs zpor zconfs znear zleads) H → va_D A (w_X3_explore cyI cyJ cyZ qB q_twos q_outs qE q_por q_confs q_near q_leads q_agrees q_answers q_hopes q_opens q_most q_ready bCount rRules zrCount twos outs zpor zconfs znear zleads) → va_S A s.heap H locs → lv_has ls 5 [(0, .ref qE), (1, .ref qB), (3, .int zx3)] → W p l e rm_X3_explore s m args below meth c H locs 0 0 (MQ below (Qzv dC dI cyI cyJ cyZ A (w_X3_explore cyI cyJ cyZ qB q_twos q_outs qE q_por q_confs q_near q_leads q_agrees q_answers q_hopes q_opens q_most q_ready bCount rRules9 rCount9 twos outs por9 confs9 near9 leads9)) args s 0 0 A) (F0 m 30 ls [])) (Ke : ∀ (zrCount : Int32) (zpor : Nat → Int32) (zconfs : Nat → Int32) (znear : Nat → Int32) (zleads : Nat → Int32), r = Sum.inr (zrCount, zpor, zconfs, znear, zleads) → ∀ (H : Heap) (locs : List Loc) (ls : Array Slot), va_P (dC, dI) vwCl (w_X3_explore cyI cyJ cyZ qB q_twos q_outs qE q_por q_confs q_near q_leads q_agrees q_answers q_hopes q_opens q_most q_ready bCount rRules zrCount twos outs zpor zconfs znear zleads) H → va_D A (w_X3_explore cyI cyJ cyZ qB q_twos q_outs qE q_por q_confs q_near q_leads q_agrees q_answers q_hopes q_opens q_most q_ready bCount rRules zrCount twos outs zpor zconfs znear zleads) → va_S A s.heap H locs → lv_has ls 5 [] → W p l e rm_X3_explore s m args below meth c H locs 0 0 (MQ below (Qzv dC dI cyI cyJ cyZ A (w_X3_explore cyI cyJ cyZ qB q_twos q_outs qE q_por q_confs q_near q_leads q_agrees q_answers q_hopes q_opens q_most q_ready bCount rRules9 rCount9 twos outs por9 confs9 near9 leads9)) args s 0 0 A) (F0 m 98 ls [])) (H : Heap) (locs : List Loc) (ls : Array Slot) (hP : va_P (dC, dI) vwCl (w_X3_explore cyI cyJ cyZ qB q_twos q_outs qE q_por q_confs q_near q_leads q_agrees q_answers q_hopes q_opens q_most q_ready bCount rRules rCount twos outs por confs near leads) H) (hD : va_D A (w_X3_explore cyI cyJ cyZ qB q_twos q_outs qE q_por q_confs q_near q_leads q_agrees q_answers q_hopes q_opens q_most q_ready bCount rRules rCount twos outs por confs near leads)) (hS : va_S A s.heap H locs) (hl : lv_has ls 5 [(0, .ref qE), (1, .ref qB), (3, .int x3)]) : W p l e rm_X3_explore s m args below meth c H locs 0 0 (MQ below (Qzv dC dI cyI cyJ cyZ A (w_X3_explore cyI cyJ cyZ qB q_twos q_outs qE q_por q_confs q_near q_leads q_agrees q_answers q_hopes q_opens q_most q_ready bCount rRules9 rCount9 twos outs por9 confs9 near9 leads9)) args s 0 0 A) (F0 m 30 ls []) := by
  have C1 := C0
  obtain ⟨hx, hb, hr, hlocks, hml, hown, hts, hA, hK⟩ := C1
  unfold f_X3_explore_b30 at hf
  refine lv_iload_n hx hb dX3_explore_30 rfl (lv_at hl 2 rfl) ?_
  refine lv_aload_n hx hb dX3_explore_31 rfl (lv_at hl 0 rfl) ?_
  refine va_get (D := (dC, dI)) (ci := 2) (v := .int rCount) (C := RX3) (T := TX3) (N := 12) hx hb hts hn_X3_explore_X3 hown hK hP 1 rfl rfl 11 (by decide) (hts (.fieldLink RX3 60 "MetAgents$Reach" "count" "I") (List.mem_of_getElem? (i := 4) rfl)) (fun _ h9 => h9) rfl dX3_explore_32 ?_
  refine lv_icmp_ge (tgt := 98) hx hb dX3_explore_35 (by decide) (fun c_7 => ?_) (fun c_7 => ?_)
  · replace hf := it_t hf c_7
    exact Ke _ _ _ _ _ (Option.some.inj hf).symm H locs ls hP hD hS (lv_sub hl [] rfl)
  · replace hf := it_f hf c_7
    refine lv_iload_n hx hb dX3_explore_38 rfl (lv_at hl 2 rfl) ?_
    refine lv_sipush (v := 462) hx hb dX3_explore_39 (by decide) ?_
    refine lv_icmp_ge (tgt := 98) hx hb dX3_explore_42 (by decide) (fun c_8 => ?_) (fun c_8 => ?_)
    · replace hf := it_t hf c_8
      exact Ke _ _ _ _ _ (Option.some.inj hf).symm H locs ls hP hD hS (lv_sub hl [] rfl)
    · replace hf := it_f hf c_8
      refine lv_iconst (v := 0) hx hb dX3_explore_45 (by decide) ?_
      refine lv_istore (lv' := [(4, .int 0), (0, .ref qE), (1, .ref qB), (3, .int x3)]) hx hb dX3_explore_46 hl (by decide) rfl (fun ls hl => ?_)
      obtain ⟨rCount_20, por_21, confs_22, near_23, leads_24, hlp, hf⟩ := bd5_el hf
      refine l_X3_explore_b48 C0 hXs (fun rCount_20 por_21 confs_22 near_23 leads_24 q9 H locs ls hP hD hS hl => ?_) N _ _ _ _ _ _ hlp H locs ls hP hD hS (lv_sub hl [1, 2, 3, 0] rfl)
      cases q9
      obtain ⟨x3_25, e_25, hf⟩ := nm_el hf
      refine lv_iinc (v := x3_25) (lv' := [(3, .int x3_25), (0, .ref qE), (1, .ref qB)]) hx hb dX3_explore_92 hl (k := 2) rfl (by rw [e_25]; rfl) (by decide) rfl (fun ls hl => ?_)
      refine lv_goto (tgt := 30) hx hb dX3_explore_95 (by decide) ?_
      exact Kh _ _ _ _ _ _ (Option.some.inj hf).symm H locs ls hP hD hS (lv_sub hl [1, 2, 0] rfl)
set_option maxHeartbeats 4000000 in
set_option maxRecDepth 100000 in
theorem l_X3_explore_b30 (C0 : Cx p s m args meth c cX3_explore none 5 RX3 wsX3_explore A dC dI cyI cyJ cyZ) {qB q_twos q_outs qE q_por q_confs q_near q_leads q_agrees q_answers q_hopes q_opens q_most q_ready : Nat} {tC : Nat} (hXs : (XC tC) A s) {N : Nat} {bCount : Int32} {rRules : Int32} {twos : Nat → Int32} {outs : Nat → Int32} {rRules9 : Int32} {rCount9 : Int32} {por9 : Nat → Int32} {confs9 : Nat → Int32} {near9 : Nat → Int32} {leads9 : Nat → Int32} {z : Int32 × (Nat → Int32) × (Nat → Int32) × (Nat → Int32) × (Nat → Int32)} (Ke : ∀ (zrCount : Int32) (zpor : Nat → Int32) (zconfs : Nat → Int32) (znear : Nat → Int32) (zleads : Nat → Int32), z = (zrCount, zpor, zconfs, znear, zleads) → ∀ (H : Heap) (locs : List Loc) (ls : Array Slot), va_P (dC, dI) vwCl (w_X3_explore cyI cyJ cyZ qB q_twos q_outs qE q_por q_confs q_near q_leads q_agrees q_answers q_hopes q_opens q_most q_ready bCount rRules zrCount twos outs zpor zconfs znear zleads) H → va_D A (w_X3_explore cyI cyJ cyZ qB q_twos q_outs qE q_por q_confs q_near q_leads q_agrees q_answers q_hopes q_opens q_most q_ready bCount rRules zrCount twos outs zpor zconfs znear zleads) → va_S A s.heap H locs → lv_has ls 5 [] → W p l e rm_X3_explore s m args below meth c H locs 0 0 (MQ below (Qzv dC dI cyI cyJ cyZ A (w_X3_explore cyI cyJ cyZ qB q_twos q_outs qE q_por q_confs q_near q_leads q_agrees q_answers q_hopes q_opens q_most q_ready bCount rRules9 rCount9 twos outs por9 confs9 near9 leads9)) args s 0 0 A) (F0 m 98 ls [])) : ∀ (n9 : Nat) (x3 : Int32) (rCount : Int32) (por : Nat → Int32) (confs : Nat → Int32) (near : Nat → Int32) (leads : Nat → Int32), loopN (fun (w9 : Int32 × Int32 × (Nat → Int32) × (Nat → Int32) × (Nat → Int32) × (Nat → Int32)) => f_X3_explore_b30 N bCount rRules twos outs w9.1 w9.2.1 w9.2.2.1 w9.2.2.2.1 w9.2.2.2.2.1 w9.2.2.2.2.2) n9 (x3, rCount, por, confs, near, leads) = some z → ∀ (H : Heap) (locs : List Loc) (ls : Array Slot), va_P (dC, dI) vwCl (w_X3_explore cyI cyJ cyZ qB q_twos q_outs qE q_por q_confs q_near q_leads q_agrees q_answers q_hopes q_opens q_most q_ready bCount rRules rCount twos outs por confs near leads) H → va_D A (w_X3_explore cyI cyJ cyZ qB q_twos q_outs qE q_por q_confs q_near q_leads q_agrees q_answers q_hopes q_opens q_most q_ready bCount rRules rCount twos outs por confs near leads) → va_S A s.heap H locs → lv_has ls 5 [(0, .ref qE), (1, .ref qB), (3, .int x3)] → W p l e rm_X3_explore s m args below meth c H locs 0 0 (MQ below (Qzv dC dI cyI cyJ cyZ A (w_X3_explore cyI cyJ cyZ qB q_twos q_outs qE q_por q_confs q_near q_leads q_agrees q_answers q_hopes q_opens q_most q_ready bCount rRules9 rCount9 twos outs por9 confs9 near9 leads9)) args s 0 0 A) (F0 m 30 ls []) := by
  intro n9
  induction n9 with
  | zero => intro _ _ _ _ _ _ h; cases h
  | succ n9 ih =>
    intro x3 rCount por confs near leads h H locs ls hP hD hS hl
    rcases loopN_el h with ⟨y9, h1, h2⟩ | h1
    · exact t_X3_explore_b30 C0 hXs  h1 (fun zx3 zrCount zpor zconfs znear zleads q9 H locs ls hP hD hS hl => ih zx3 zrCount zpor zconfs znear zleads (by cases q9; exact h2) H locs ls hP hD hS hl) (fun _ _ _ _ _ q9 => by cases q9) H locs ls hP hD hS hl
    · exact t_X3_explore_b30 C0 hXs  h1 (fun _ _ _ _ _ _ q9 => by cases q9) (fun erCount epor econfs enear eleads q9 => Ke erCount epor econfs enear eleads (by cases q9; rfl)) H locs ls hP hD hS hl
def f_X3_explore (N : Nat) (x2 : Int32) (bCount : Int32) (rRules : Int32) (rCount : Int32) (twos : Nat → Int32) (outs : Nat → Int32) (por : Nat → Int32) (confs : Nat → Int32) (near : Nat → Int32) (leads : Nat → Int32) : Option (Int32 × Int32 × (Nat → Int32) × (Nat → Int32) × (Nat → Int32) × (Nat → Int32)) :=
  bd1 (f_J7_fill_53178 N 462 (-1) por) (fun por_1 => bd5 (f_X3_place N x2 0 0 por_1 confs near) (fun r_2 rCount_3 por_4 confs_5 near_6 => bd5 (loopN (fun (w9 : Int32 × Int32 × (Nat → Int32) × (Nat → Int32) × (Nat → Int32) × (Nat → Int32)) => f_X3_explore_b30 N bCount bCount twos outs w9.1 w9.2.1 w9.2.2.1 w9.2.2.2.1 w9.2.2.2.2.1 w9.2.2.2.2.2) N (0, rCount_3, por_4, confs_5, near_6, leads)) (fun rCount_26 por_27 confs_28 near_29 leads_30 => some (bCount, rCount_26, por_27, confs_28, near_29, leads_30))))
set_option maxHeartbeats 4000000 in
set_option maxRecDepth 100000 in
theorem t_X3_explore (C0 : Cx p s m args meth c cX3_explore none 5 RX3 wsX3_explore A dC dI cyI cyJ cyZ) {qB q_twos q_outs qE q_por q_confs q_near q_leads q_agrees q_answers q_hopes q_opens q_most q_ready : Nat} {tC : Nat} (hXs : (XC tC) A s) {N : Nat} {x2 : Int32} {bCount : Int32} {rRules : Int32} {rCount : Int32} {twos : Nat → Int32} {outs : Nat → Int32} {por : Nat → Int32} {confs : Nat → Int32} {near : Nat → Int32} {leads : Nat → Int32} {rRules9 : Int32} {rCount9 : Int32} {por9 : Nat → Int32} {confs9 : Nat → Int32} {near9 : Nat → Int32} {leads9 : Nat → Int32} (hf : f_X3_explore N x2 bCount rRules rCount twos outs por confs near leads = some (rRules9, rCount9, por9, confs9, near9, leads9)) (H : Heap) (locs : List Loc) (ls : Array Slot) (hP : va_P (dC, dI) vwCl (w_X3_explore cyI cyJ cyZ qB q_twos q_outs qE q_por q_confs q_near q_leads q_agrees q_answers q_hopes q_opens q_most q_ready bCount rRules rCount twos outs por confs near leads) H) (hD : va_D A (w_X3_explore cyI cyJ cyZ qB q_twos q_outs qE q_por q_confs q_near q_leads q_agrees q_answers q_hopes q_opens q_most q_ready bCount rRules rCount twos outs por confs near leads)) (hS : va_S A s.heap H locs) (hl : lv_has ls 5 [(0, .ref qE), (1, .ref qB), (2, .int x2)]) : W p l e rm_X3_explore s m args below meth c H locs 0 0 (MQ below (Qzv dC dI cyI cyJ cyZ A (w_X3_explore cyI cyJ cyZ qB q_twos q_outs qE q_por q_confs q_near q_leads q_agrees q_answers q_hopes q_opens q_most q_ready bCount rRules9 rCount9 twos outs por9 confs9 near9 leads9)) args s 0 0 A) (F0 m 0 ls []) := by
  have C1 := C0
  obtain ⟨hx, hb, hr, hlocks, hml, hown, hts, hA, hK⟩ := C1
  unfold f_X3_explore at hf
  refine lv_aload_n hx hb dX3_explore_0 rfl (lv_at hl 0 rfl) ?_
  refine va_get (D := (dC, dI)) (ci := 2) (v := .ref q_por) (C := RX3) (T := TX3) (N := 12) hx hb hts hn_X3_explore_X3 hown hK hP 1 rfl rfl 0 (by decide) (hts (.fieldLink RX3 11 "MetAgents$Reach" "placeOfRank" "[I") (List.mem_of_getElem? (i := 1) rfl)) (fun _ h9 => h9) rfl dX3_explore_1 ?_
  refine lv_iconst (v := (-1)) hx hb dX3_explore_4 (by decide) ?_
  obtain ⟨por_1, hc, hf⟩ := bd1_el hf
  refine cl_v (wc := (w_J7_fill_53178 cyI cyJ cyZ q_por 462 por)) (wr := [(qB, .inr (3, [.ref q_twos, .ref q_outs, .int bCount])), (qE, .inr (2, [.ref q_por, .ref q_confs, .ref q_near, .ref q_leads, .ref q_agrees, .ref q_answers, .ref q_hopes, .ref q_opens, .ref q_most, .ref q_ready, .int rRules, .int rCount])), (q_twos, .inl (cyI, 12, .inl twos)), (q_outs, .inl (cyI, 36, .inl outs)), (q_confs, .inl (cyI, 462, .inl confs)), (q_near, .inl (cyI, 462, .inl near)), (q_leads, .inl (cyI, 5544, .inl leads))]) (w1 := (w_J7_fill_53178 cyI cyJ cyZ q_por 462 por_1)) (w2 := (w_X3_explore cyI cyJ cyZ qB q_twos q_outs qE q_por q_confs q_near q_leads q_agrees q_answers q_hopes q_opens q_most q_ready bCount rRules rCount twos outs por_1 confs near leads)) C0 (rn_S (As := [.ref q_por, .int (-1)]) (rest := []) (wc := (w_J7_fill_53178 cyI cyJ cyZ q_por 462 por)) (X := X0) C0 (c_J7_fill_53178 l dC dI cyI cyJ cyZ q_por 462 H.size N (-1) por por_1 hc) (va_cwS 2 hts gX3_explore_J7_fill_53178 rfl rfl rfl (by decide +kernel) ⟨Nat.le_of_ble_eq_true rfl, Nat.le_of_ble_eq_true rfl⟩) X0_car trivial hP hD hS [4] rfl rfl rfl hl.1 rfl (Nat.le_of_ble_eq_true rfl) dX3_explore_5 ⟨Nat.le_of_ble_eq_true rfl, Nat.le_of_ble_eq_true rfl⟩) hP hD hS [4] [0, 1, 2, 3, 5, 6, 7] [0, 1, 2, 3, 7, 4, 5, 6] rfl rfl rfl (by decide) rfl rfl (fun H locs hP hD hS => ?_)
  refine lv_aload_n hx hb dX3_explore_8 rfl (lv_at hl 0 rfl) ?_
  refine lv_aload_n hx hb dX3_explore_9 rfl (lv_at hl 1 rfl) ?_
  refine va_get (D := (dC, dI)) (ci := 3) (v := .int bCount) (C := RX4) (T := TX4) (N := 3) hx hb hts hn_X3_explore_X4 hown hK hP 0 rfl rfl 2 (by decide) (hts (.fieldLink RX3 51 "MetAgents$RuleBook" "count" "I") (List.mem_of_getElem? (i := 2) rfl)) (fun _ h9 => h9) rfl dX3_explore_10 ?_
  refine va_put (D := (dC, dI)) (ci := 2) (v := .int bCount) (ty := .int) (C := RX3) (T := TX3) (N := 12) hx hb hts hn_X3_explore_X3 tyX3 tyX3_ok nmX3 hown hK hP hD hS 1 rfl rfl 10 (by decide) (hts (.fieldLink RX3 57 "MetAgents$Reach" "rules" "I") (List.mem_of_getElem? (i := 3) rfl)) (fun _ h9 => h9) rfl (by decide +kernel) rfl rfl (Nat.le_of_ble_eq_true rfl) dX3_explore_13 (fun H locs (hP : va_P (dC, dI) vwCl (w_X3_explore cyI cyJ cyZ qB q_twos q_outs qE q_por q_confs q_near q_leads q_agrees q_answers q_hopes q_opens q_most q_ready bCount bCount rCount twos outs por_1 confs near leads) H) (hD : va_D A (w_X3_explore cyI cyJ cyZ qB q_twos q_outs qE q_por q_confs q_near q_leads q_agrees q_answers q_hopes q_opens q_most q_ready bCount bCount rCount twos outs por_1 confs near leads)) hS => ?_)
  refine lv_aload_n hx hb dX3_explore_16 rfl (lv_at hl 0 rfl) ?_
  refine lv_iconst (v := 0) hx hb dX3_explore_17 (by decide) ?_
  refine va_put (D := (dC, dI)) (ci := 2) (v := .int 0) (ty := .int) (C := RX3) (T := TX3) (N := 12) hx hb hts hn_X3_explore_X3 tyX3 tyX3_ok nmX3 hown hK hP hD hS 1 rfl rfl 11 (by decide) (hts (.fieldLink RX3 60 "MetAgents$Reach" "count" "I") (List.mem_of_getElem? (i := 4) rfl)) (fun _ h9 => h9) rfl (by decide +kernel) rfl rfl (Nat.le_of_ble_eq_true rfl) dX3_explore_18 (fun H locs (hP : va_P (dC, dI) vwCl (w_X3_explore cyI cyJ cyZ qB q_twos q_outs qE q_por q_confs q_near q_leads q_agrees q_answers q_hopes q_opens q_most q_ready bCount bCount 0 twos outs por_1 confs near leads) H) (hD : va_D A (w_X3_explore cyI cyJ cyZ qB q_twos q_outs qE q_por q_confs q_near q_leads q_agrees q_answers q_hopes q_opens q_most q_ready bCount bCount 0 twos outs por_1 confs near leads)) hS => ?_)
  refine lv_aload_n hx hb dX3_explore_21 rfl (lv_at hl 0 rfl) ?_
  refine lv_iload_n hx hb dX3_explore_22 rfl (lv_at hl 2 rfl) ?_
  refine lv_iconst (v := 0) hx hb dX3_explore_23 (by decide) ?_
  obtain ⟨r_2, rCount_3, por_4, confs_5, near_6, hc, hf⟩ := bd5_el hf
  refine cl_i (wc := (w_X3_place cyI cyJ cyZ qE q_por q_confs q_near q_leads q_agrees q_answers q_hopes q_opens q_most q_ready bCount 0 por_1 confs near)) (wr := [(qB, .inr (3, [.ref q_twos, .ref q_outs, .int bCount])), (q_twos, .inl (cyI, 12, .inl twos)), (q_outs, .inl (cyI, 36, .inl outs)), (q_leads, .inl (cyI, 5544, .inl leads))]) (w1 := (w_X3_place cyI cyJ cyZ qE q_por q_confs q_near q_leads q_agrees q_answers q_hopes q_opens q_most q_ready bCount rCount_3 por_4 confs_5 near_6)) (w2 := (w_X3_explore cyI cyJ cyZ qB q_twos q_outs qE q_por q_confs q_near q_leads q_agrees q_answers q_hopes q_opens q_most q_ready bCount bCount rCount_3 twos outs por_4 confs_5 near_6 leads)) C0 (rn_V (As := [.int x2, .int 0]) (rest := []) (wc := (w_X3_place cyI cyJ cyZ qE q_por q_confs q_near q_leads q_agrees q_answers q_hopes q_opens q_most q_ready bCount 0 por_1 confs near)) (X := (XC tC)) C0 (c_X3_place l dC dI cyI cyJ cyZ qE q_por q_confs q_near q_leads q_agrees q_answers q_hopes q_opens q_most q_ready tC H.size N x2 0 0 por_1 confs near bCount r_2 rCount_3 por_4 confs_5 near_6 hc) (cwV 2 hts gX3_explore_X3_place rfl rfl rfl (by decide +kernel) ⟨Nat.le_of_ble_eq_true rfl, Nat.le_of_ble_eq_true rfl⟩) (XC_car tC) hXs hP hD hS [1, 4, 5, 6] rfl rfl 1 2 rfl rfl rfl hl.1 rfl (Nat.le_of_ble_eq_true rfl) dX3_explore_24 ⟨Nat.le_of_ble_eq_true rfl, Nat.le_of_ble_eq_true rfl⟩) hP hD hS [1, 4, 5, 6] [0, 2, 3, 7] [0, 4, 1, 2, 5, 6, 7, 3] rfl rfl rfl (by decide) rfl rfl (fun H locs hP hD hS => ?_)
  refine lv_pop hx hb dX3_explore_27 rfl ?_
  refine lv_iconst (v := 0) hx hb dX3_explore_28 (by decide) ?_
  refine lv_istore_n (lv' := [(3, .int 0), (0, .ref qE), (1, .ref qB), (2, .int x2)]) hx hb dX3_explore_29 rfl hl (by decide) rfl (fun ls hl => ?_)
  obtain ⟨rCount_26, por_27, confs_28, near_29, leads_30, hlp, hf⟩ := bd5_el hf
  refine l_X3_explore_b30 C0 hXs (fun rCount_26 por_27 confs_28 near_29 leads_30 q9 H locs ls hP hD hS hl => ?_) N _ _ _ _ _ _ hlp H locs ls hP hD hS (lv_sub hl [1, 2, 0] rfl)
  cases q9
  cases hf
  exact W.vret hx hb hr (fun t ht hW => ⟨⟨(), rfl, trivial, by rw [ht]; exact hP, va_K.moved hW.alike hK, hD⟩, hS.F ht⟩) hS.2.2 dX3_explore_98
set_option maxHeartbeats 4000000 in
set_option maxRecDepth 100000 in
theorem c_X3_explore (l : Launch) (dC : Nat → ClassId) (dI : Nat → Nat → Nat) (cyI cyJ cyZ : ClassId) (qB q_twos q_outs qE q_por q_confs q_near q_leads q_agrees q_answers q_hopes q_opens q_most q_ready : Nat) (tC : Nat) (sz N : Nat) (x2 : Int32) (bCount : Int32) (rRules : Int32) (rCount : Int32) (twos : Nat → Int32) (outs : Nat → Int32) (por : Nat → Int32) (confs : Nat → Int32) (near : Nat → Int32) (leads : Nat → Int32) (rRules9 : Int32) (rCount9 : Int32) (por9 : Nat → Int32) (confs9 : Nat → Int32) (near9 : Nat → Int32) (leads9 : Nat → Int32) (hf : f_X3_explore N x2 bCount rRules rCount twos outs por confs near leads = some (rRules9, rCount9, por9, confs9, near9, leads9)) : Met l yX3_explore wsX3_explore rm_X3_explore (Pz dC dI cyI cyJ cyZ [.ref qE, .ref qB, .int x2] sz (w_X3_explore cyI cyJ cyZ qB q_twos q_outs qE q_por q_confs q_near q_leads q_agrees q_answers q_hopes q_opens q_most q_ready bCount rRules rCount twos outs por confs near leads) (XC tC)) (Qzv dC dI cyI cyJ cyZ (va_A (w_X3_explore cyI cyJ cyZ qB q_twos q_outs qE q_por q_confs q_near q_leads q_agrees q_answers q_hopes q_opens q_most q_ready bCount rRules rCount twos outs por confs near leads) sz) (w_X3_explore cyI cyJ cyZ qB q_twos q_outs qE q_por q_confs q_near q_leads q_agrees q_answers q_hopes q_opens q_most q_ready bCount rRules9 rCount9 twos outs por9 confs9 near9 leads9)) 0 0 (va_A (w_X3_explore cyI cyJ cyZ qB q_twos q_outs qE q_por q_confs q_near q_leads q_agrees q_answers q_hopes q_opens q_most q_ready bCount rRules rCount twos outs por confs near leads) sz) := by
  refine Met_of (cc := cX3_explore) (maxL := 5) (ret := none) (by decide) rfl (Nat.le_of_ble_eq_true rfl) ?_
  intro p e s m args below meth c ls C0 hsz hXs hP hD hS hl
  exact t_X3_explore C0 hXs hf s.heap [] ls hP hD hS hl
abbrev w_X3_leadsToOtherAnswer (cyI cyJ cyZ : ClassId) (qE q_por q_confs q_near q_leads q_agrees q_answers q_hopes q_opens q_most q_ready : Nat) (rRules : Int32) (rCount : Int32) (leads : Nat → Int32) (answers : Nat → Int32) : va_W := [(qE, .inr (2, [.ref q_por, .ref q_confs, .ref q_near, .ref q_leads, .ref q_agrees, .ref q_answers, .ref q_hopes, .ref q_opens, .ref q_most, .ref q_ready, .int rRules, .int rCount])), (q_leads, .inl (cyI, 5544, .inl leads)), (q_answers, .inl (cyI, 462, .inl answers))]
abbrev rm_X3_leadsToOtherAnswer : Room := { frames := 1, cells := 0, slots := 0, locals := 22 }
theorem hn_X3_leadsToOtherAnswer_X3 : ∀ w ∈ wsX30, w ∈ wsX3_leadsToOtherAnswer := fun _ h => List.mem_cons_of_mem _ (List.mem_append_right _ h)
def f_X3_leadsToOtherAnswer_b2 (N : Nat) (x1 : Int32) (rRules : Int32) (leads : Nat → Int32) (answers : Nat → Int32) (x2 : Int32) : Option ((Int32) ⊕ ((Int32) ⊕ (Unit))) :=
  (if rRules ≤ x2 then some (Sum.inr (Sum.inr ())) else bd1 (f_X3_leadAt N x1 x2 leads) (fun r_2 => (if r_2 < 0 then nm (x2 + 1) (fun x2_4 => some (Sum.inl x2_4)) else gd (inb r_2 462) (gd (inb x1 462) ((if (answers r_2.toNatClampNeg) = (answers x1.toNatClampNeg) then nm (x2 + 1) (fun x2_8 => some (Sum.inl x2_8)) else some (Sum.inr (Sum.inl 1))))))))
set_option maxHeartbeats 4000000 in
set_option maxRecDepth 100000 in
theorem t_X3_leadsToOtherAnswer_b2 (C0 : Cx p s m args meth c cX3_leadsToOtherAnswer (some .boolean) 4 RX3 wsX3_leadsToOtherAnswer A dC dI cyI cyJ cyZ) {qE q_por q_confs q_near q_leads q_agrees q_answers q_hopes q_opens q_most q_ready : Nat} (hXs : X0 A s) {N : Nat} {x1 : Int32} {rRules : Int32} {leads : Nat → Int32} {answers : Nat → Int32} {x2 : Int32} {rCount : Int32} {r9 : Int32} {r : (Int32) ⊕ ((Int32) ⊕ (Unit))} (hf : f_X3_leadsToOtherAnswer_b2 N x1 rRules leads answers x2 = some r) (Kh : ∀ (zx2 : Int32), r = Sum.inl zx2 → ∀ (H : Heap) (locs : List Loc) (ls : Array Slot), va_P (dC, dI) vwCl (w_X3_leadsToOtherAnswer cyI cyJ cyZ qE q_por q_confs q_near q_leads q_agrees q_answers q_hopes q_opens q_most q_ready rRules rCount leads answers) H → va_D A (w_X3_leadsToOtherAnswer cyI cyJ cyZ qE q_por q_confs q_near q_leads q_agrees q_answers q_hopes q_opens q_most q_ready rRules rCount leads answers) → va_S A s.heap H locs → lv_has ls 4 [(0, .ref qE), (1, .int x1), (2, .int zx2)] → W p l e rm_X3_leadsToOtherAnswer s m args below meth c H locs 0 0 (MQ below (Qzi dC dI cyI cyJ cyZ A (w_X3_leadsToOtherAnswer cyI cyJ cyZ qE q_por q_confs q_near q_leads q_agrees q_answers q_hopes q_opens q_most q_ready rRules rCount leads answers) r9) args s 0 0 A) (F0 m 2 ls [])) (Ke : r = Sum.inr (Sum.inr ()) → ∀ (H : Heap) (locs : List Loc) (ls : Array Slot), va_P (dC, dI) vwCl (w_X3_leadsToOtherAnswer cyI cyJ cyZ qE q_por q_confs q_near q_leads q_agrees q_answers q_hopes q_opens q_most q_ready rRules rCount leads answers) H → va_D A (w_X3_leadsToOtherAnswer cyI cyJ cyZ qE q_por q_confs q_near q_leads q_agrees q_answers q_hopes q_opens q_most q_ready rRules rCount leads answers) → va_S A s.heap H locs → lv_has ls 4 [] → W p l e rm_X3_leadsToOtherAnswer s m args below meth c H locs 0 0 (MQ below (Qzi dC dI cyI cyJ cyZ A (w_X3_leadsToOtherAnswer cyI cyJ cyZ qE q_por q_confs q_near q_leads q_agrees q_answers q_hopes q_opens q_most q_ready rRules rCount leads answers) r9) args s 0 0 A) (F0 m 44 ls [])) (Kr : ∀ x9 : Int32, r = Sum.inr (Sum.inl x9) → x9 = r9) (H : Heap) (locs : List Loc) (ls : Array Slot) (hP : va_P (dC, dI) vwCl (w_X3_leadsToOtherAnswer cyI cyJ cyZ qE q_por q_confs q_near q_leads q_agrees q_answers q_hopes q_opens q_most q_ready rRules rCount leads answers) H) (hD : va_D A (w_X3_leadsToOtherAnswer cyI cyJ cyZ qE q_por q_confs q_near q_leads q_agrees q_answers q_hopes q_opens q_most q_ready rRules rCount leads answers)) (hS : va_S A s.heap H locs) (hl : lv_has ls 4 [(0, .ref qE), (1, .int x1), (2, .int x2)]) : W p l e rm_X3_leadsToOtherAnswer s m args below meth c H locs 0 0 (MQ below (Qzi dC dI cyI cyJ cyZ A (w_X3_leadsToOtherAnswer cyI cyJ cyZ qE q_por q_confs q_near q_leads q_agrees q_answers q_hopes q_opens q_most q_ready rRules rCount leads answers) r9) args s 0 0 A) (F0 m 2 ls []) := by
  have C1 := C0
  obtain ⟨hx, hb, hr, hlocks, hml, hown, hts, hA, hK⟩ := C1
  unfold f_X3_leadsToOtherAnswer_b2 at hf
  refine lv_iload_n hx hb dX3_leadsToOtherAnswer_2 rfl (lv_at hl 2 rfl) ?_
  refine lv_aload_n hx hb dX3_leadsToOtherAnswer_3 rfl (lv_at hl 0 rfl) ?_
  refine va_get (D := (dC, dI)) (ci := 2) (v := .int rRules) (C := RX3) (T := TX3) (N := 12) hx hb hts hn_X3_leadsToOtherAnswer_X3 hown hK hP 0 rfl rfl 10 (by decide) (hts (.fieldLink RX3 57 "MetAgents$Reach" "rules" "I") (List.mem_of_getElem? (i := 1) rfl)) (fun _ h9 => h9) rfl dX3_leadsToOtherAnswer_4 ?_
  refine lv_icmp_ge (tgt := 44) hx hb dX3_leadsToOtherAnswer_7 (by decide) (fun c_1 => ?_) (fun c_1 => ?_)
  · replace hf := it_t hf c_1
    exact Ke  (Option.some.inj hf).symm H locs ls hP hD hS (lv_sub hl [] rfl)
  · replace hf := it_f hf c_1
    refine lv_aload_n hx hb dX3_leadsToOtherAnswer_10 rfl (lv_at hl 0 rfl) ?_
    refine lv_iload_n hx hb dX3_leadsToOtherAnswer_11 rfl (lv_at hl 1 rfl) ?_
    refine lv_iload_n hx hb dX3_leadsToOtherAnswer_12 rfl (lv_at hl 2 rfl) ?_
    obtain ⟨r_2, hc, hf⟩ := bd1_el hf
    refine cl_i (wc := (w_X3_leadAt cyI cyJ cyZ qE q_por q_confs q_near q_leads q_agrees q_answers q_hopes q_opens q_most q_ready rRules rCount leads)) (wr := [(q_answers, .inl (cyI, 462, .inl answers))]) (w1 := (w_X3_leadAt cyI cyJ cyZ qE q_por q_confs q_near q_leads q_agrees q_answers q_hopes q_opens q_most q_ready rRules rCount leads)) (w2 := (w_X3_leadsToOtherAnswer cyI cyJ cyZ qE q_por q_confs q_near q_leads q_agrees q_answers q_hopes q_opens q_most q_ready rRules rCount leads answers)) C0 (rn_V (As := [.int x1, .int x2]) (rest := []) (wc := (w_X3_leadAt cyI cyJ cyZ qE q_por q_confs q_near q_leads q_agrees q_answers q_hopes q_opens q_most q_ready rRules rCount leads)) (X := X0) C0 (c_X3_leadAt l dC dI cyI cyJ cyZ qE q_por q_confs q_near q_leads q_agrees q_answers q_hopes q_opens q_most q_ready H.size N x1 x2 leads rRules rCount r_2 hc) (cwV 2 hts gX3_leadsToOtherAnswer_X3_leadAt rfl rfl rfl (by decide +kernel) ⟨Nat.le_of_ble_eq_true rfl, Nat.le_of_ble_eq_true rfl⟩) X0_car trivial hP hD hS [0, 1] rfl rfl 0 2 rfl rfl rfl hl.1 rfl (Nat.le_of_ble_eq_true rfl) dX3_leadsToOtherAnswer_13 ⟨Nat.le_of_ble_eq_true rfl, Nat.le_of_ble_eq_true rfl⟩) hP hD hS [0, 1] [2] [1, 2, 0] rfl rfl rfl (by decide) rfl rfl (fun H locs hP hD hS => ?_)
    refine lv_istore_n (lv' := [(3, .int r_2), (0, .ref qE), (1, .int x1), (2, .int x2)]) hx hb dX3_leadsToOtherAnswer_16 rfl hl (by decide) rfl (fun ls hl => ?_)
    refine lv_iload_n hx hb dX3_leadsToOtherAnswer_17 rfl (lv_at hl 0 rfl) ?_
    refine lv_if_lt (tgt := 38) hx hb dX3_leadsToOtherAnswer_18 (by decide) (fun c_3 => ?_) (fun c_3 => ?_)
    · replace hf := it_t hf c_3
      obtain ⟨x2_4, e_4, hf⟩ := nm_el hf
      refine lv_iinc (v := x2_4) (lv' := [(2, .int x2_4), (3, .int r_2), (0, .ref qE), (1, .int x1)]) hx hb dX3_leadsToOtherAnswer_38 hl (k := 3) rfl (by rw [e_4]; rfl) (by decide) rfl (fun ls hl => ?_)
      refine lv_goto (tgt := 2) hx hb dX3_leadsToOtherAnswer_41 (by decide) ?_
      exact Kh _ (Option.some.inj hf).symm H locs ls hP hD hS (lv_sub hl [2, 3, 0] rfl)
    · replace hf := it_f hf c_3
      refine lv_aload_n hx hb dX3_leadsToOtherAnswer_21 rfl (lv_at hl 1 rfl) ?_
      refine va_get (D := (dC, dI)) (ci := 2) (v := .ref q_answers) (C := RX3) (T := TX3) (N := 12) hx hb hts hn_X3_leadsToOtherAnswer_X3 hown hK hP 0 rfl rfl 5 (by decide) (hts (.fieldLink RX3 29 "MetAgents$Reach" "answers" "[I") (List.mem_of_getElem? (i := 2) rfl)) (fun _ h9 => h9) rfl dX3_leadsToOtherAnswer_22 ?_
      refine lv_iload_n hx hb dX3_leadsToOtherAnswer_25 rfl (lv_at hl 0 rfl) ?_
      obtain ⟨h_5, hf⟩ := gd_el hf
      refine va_iald hx hb hK hP 2 0 rfl rfl (inb_in h_5) dX3_leadsToOtherAnswer_26 ?_
      refine lv_aload_n hx hb dX3_leadsToOtherAnswer_27 rfl (lv_at hl 1 rfl) ?_
      refine va_get (D := (dC, dI)) (ci := 2) (v := .ref q_answers) (C := RX3) (T := TX3) (N := 12) hx hb hts hn_X3_leadsToOtherAnswer_X3 hown hK hP 0 rfl rfl 5 (by decide) (hts (.fieldLink RX3 29 "MetAgents$Reach" "answers" "[I") (List.mem_of_getElem? (i := 2) rfl)) (fun _ h9 => h9) rfl dX3_leadsToOtherAnswer_28 ?_
      refine lv_iload_n hx hb dX3_leadsToOtherAnswer_31 rfl (lv_at hl 2 rfl) ?_
      obtain ⟨h_6, hf⟩ := gd_el hf
      refine va_iald hx hb hK hP 2 0 rfl rfl (inb_in h_6) dX3_leadsToOtherAnswer_32 ?_
      refine lv_icmp_eq (tgt := 38) hx hb dX3_leadsToOtherAnswer_33 (by decide) (fun c_7 => ?_) (fun c_7 => ?_)
      · replace hf := it_t hf c_7
        obtain ⟨x2_8, e_8, hf⟩ := nm_el hf
        refine lv_iinc (v := x2_8) (lv' := [(2, .int x2_8), (3, .int r_2), (0, .ref qE), (1, .int x1)]) hx hb dX3_leadsToOtherAnswer_38 hl (k := 3) rfl (by rw [e_8]; rfl) (by decide) rfl (fun ls hl => ?_)
        refine lv_goto (tgt := 2) hx hb dX3_leadsToOtherAnswer_41 (by decide) ?_
        exact Kh _ (Option.some.inj hf).symm H locs ls hP hD hS (lv_sub hl [2, 3, 0] rfl)
      · replace hf := it_f hf c_7
        refine lv_iconst (v := 1) hx hb dX3_leadsToOtherAnswer_36 (by decide) ?_
        cases Kr _ (Option.some.inj hf).symm
        exact W.zret hx hb hr rfl (fun t ht hW => ⟨⟨_, (), rfl, rfl, by rw [ht]; exact hP, va_K.moved hW.alike hK, hD⟩, hS.F ht⟩) hS.2.2 dX3_leadsToOtherAnswer_37
set_option maxHeartbeats 4000000 in
set_option maxRecDepth 100000 in
theorem l_X3_leadsToOtherAnswer_b2 (C0 : Cx p s m args meth c cX3_leadsToOtherAnswer (some .boolean) 4 RX3 wsX3_leadsToOtherAnswer A dC dI cyI cyJ cyZ) {qE q_por q_confs q_near q_leads q_agrees q_answers q_hopes q_opens q_most q_ready : Nat} (hXs : X0 A s) {N : Nat} {x1 : Int32} {rRules : Int32} {leads : Nat → Int32} {answers : Nat → Int32} {rCount : Int32} {r9 : Int32} {z : (Int32) ⊕ (Unit)} (Ke : z = Sum.inr () → ∀ (H : Heap) (locs : List Loc) (ls : Array Slot), va_P (dC, dI) vwCl (w_X3_leadsToOtherAnswer cyI cyJ cyZ qE q_por q_confs q_near q_leads q_agrees q_answers q_hopes q_opens q_most q_ready rRules rCount leads answers) H → va_D A (w_X3_leadsToOtherAnswer cyI cyJ cyZ qE q_por q_confs q_near q_leads q_agrees q_answers q_hopes q_opens q_most q_ready rRules rCount leads answers) → va_S A s.heap H locs → lv_has ls 4 [] → W p l e rm_X3_leadsToOtherAnswer s m args below meth c H locs 0 0 (MQ below (Qzi dC dI cyI cyJ cyZ A (w_X3_leadsToOtherAnswer cyI cyJ cyZ qE q_por q_confs q_near q_leads q_agrees q_answers q_hopes q_opens q_most q_ready rRules rCount leads answers) r9) args s 0 0 A) (F0 m 44 ls [])) (Kr : ∀ x9 : Int32, z = Sum.inl x9 → x9 = r9) : ∀ (n9 : Nat) (x2 : Int32), loopN (fun (w9 : Int32) => f_X3_leadsToOtherAnswer_b2 N x1 rRules leads answers w9) n9 x2 = some z → ∀ (H : Heap) (locs : List Loc) (ls : Array Slot), va_P (dC, dI) vwCl (w_X3_leadsToOtherAnswer cyI cyJ cyZ qE q_por q_confs q_near q_leads q_agrees q_answers q_hopes q_opens q_most q_ready rRules rCount leads answers) H → va_D A (w_X3_leadsToOtherAnswer cyI cyJ cyZ qE q_por q_confs q_near q_leads q_agrees q_answers q_hopes q_opens q_most q_ready rRules rCount leads answers) → va_S A s.heap H locs → lv_has ls 4 [(0, .ref qE), (1, .int x1), (2, .int x2)] → W p l e rm_X3_leadsToOtherAnswer s m args below meth c H locs 0 0 (MQ below (Qzi dC dI cyI cyJ cyZ A (w_X3_leadsToOtherAnswer cyI cyJ cyZ qE q_por q_confs q_near q_leads q_agrees q_answers q_hopes q_opens q_most q_ready rRules rCount leads answers) r9) args s 0 0 A) (F0 m 2 ls []) := by
  intro n9
  induction n9 with
  | zero => intro _ h; cases h
  | succ n9 ih =>
    intro x2 h H locs ls hP hD hS hl
    rcases loopN_el h with ⟨y9, h1, h2⟩ | h1
    · exact t_X3_leadsToOtherAnswer_b2 C0 hXs  h1 (fun zx2 q9 H locs ls hP hD hS hl => ih zx2 (by cases q9; exact h2) H locs ls hP hD hS hl) (fun  q9 => by cases q9) (fun _ q9 => by cases q9) H locs ls hP hD hS hl
    · exact t_X3_leadsToOtherAnswer_b2 C0 hXs  h1 (fun _ q9 => by cases q9) (fun  q9 => Ke  (by cases q9; rfl)) (fun x9 q9 => Kr x9 (by cases q9; rfl)) H locs ls hP hD hS hl
def f_X3_leadsToOtherAnswer (N : Nat) (x1 : Int32) (rRules : Int32) (leads : Nat → Int32) (answers : Nat → Int32) : Option (Int32) :=
  bs0 (loopN (fun (w9 : Int32) => f_X3_leadsToOtherAnswer_b2 N x1 rRules leads answers w9) N 0) (fun x9 => some x9) (some 0)
set_option maxHeartbeats 4000000 in
set_option maxRecDepth 100000 in
theorem t_X3_leadsToOtherAnswer (C0 : Cx p s m args meth c cX3_leadsToOtherAnswer (some .boolean) 4 RX3 wsX3_leadsToOtherAnswer A dC dI cyI cyJ cyZ) {qE q_por q_confs q_near q_leads q_agrees q_answers q_hopes q_opens q_most q_ready : Nat} (hXs : X0 A s) {N : Nat} {x1 : Int32} {rRules : Int32} {leads : Nat → Int32} {answers : Nat → Int32} {rCount : Int32} {r9 : Int32} (hf : f_X3_leadsToOtherAnswer N x1 rRules leads answers = some r9) (H : Heap) (locs : List Loc) (ls : Array Slot) (hP : va_P (dC, dI) vwCl (w_X3_leadsToOtherAnswer cyI cyJ cyZ qE q_por q_confs q_near q_leads q_agrees q_answers q_hopes q_opens q_most q_ready rRules rCount leads answers) H) (hD : va_D A (w_X3_leadsToOtherAnswer cyI cyJ cyZ qE q_por q_confs q_near q_leads q_agrees q_answers q_hopes q_opens q_most q_ready rRules rCount leads answers)) (hS : va_S A s.heap H locs) (hl : lv_has ls 4 [(0, .ref qE), (1, .int x1)]) : W p l e rm_X3_leadsToOtherAnswer s m args below meth c H locs 0 0 (MQ below (Qzi dC dI cyI cyJ cyZ A (w_X3_leadsToOtherAnswer cyI cyJ cyZ qE q_por q_confs q_near q_leads q_agrees q_answers q_hopes q_opens q_most q_ready rRules rCount leads answers) r9) args s 0 0 A) (F0 m 0 ls []) := by
  have C1 := C0
  obtain ⟨hx, hb, hr, hlocks, hml, hown, hts, hA, hK⟩ := C1
  unfold f_X3_leadsToOtherAnswer at hf
  refine lv_iconst (v := 0) hx hb dX3_leadsToOtherAnswer_0 (by decide) ?_
  refine lv_istore_n (lv' := [(2, .int 0), (0, .ref qE), (1, .int x1)]) hx hb dX3_leadsToOtherAnswer_1 rfl hl (by decide) rfl (fun ls hl => ?_)
  rcases bs0_el hf with ⟨x9, hlp, hf⟩ | ⟨hlp, hf⟩
  · exact l_X3_leadsToOtherAnswer_b2 C0 hXs (fun q9 => by cases q9) (fun x9 q9 => by cases q9; exact Option.some.inj hf) N _ hlp H locs ls hP hD hS (lv_sub hl [1, 2, 0] rfl)
  refine l_X3_leadsToOtherAnswer_b2 C0 hXs (fun q9 H locs ls hP hD hS hl => ?_) (fun _ q9 => by cases q9) N _ hlp H locs ls hP hD hS (lv_sub hl [1, 2, 0] rfl)
  cases q9
  refine lv_iconst (v := 0) hx hb dX3_leadsToOtherAnswer_44 (by decide) ?_
  cases hf
  exact W.zret hx hb hr rfl (fun t ht hW => ⟨⟨_, (), rfl, rfl, by rw [ht]; exact hP, va_K.moved hW.alike hK, hD⟩, hS.F ht⟩) hS.2.2 dX3_leadsToOtherAnswer_45
set_option maxHeartbeats 4000000 in
set_option maxRecDepth 100000 in
theorem c_X3_leadsToOtherAnswer (l : Launch) (dC : Nat → ClassId) (dI : Nat → Nat → Nat) (cyI cyJ cyZ : ClassId) (qE q_por q_confs q_near q_leads q_agrees q_answers q_hopes q_opens q_most q_ready : Nat) (sz N : Nat) (x1 : Int32) (rRules : Int32) (leads : Nat → Int32) (answers : Nat → Int32) (rCount : Int32) (r9 : Int32) (hf : f_X3_leadsToOtherAnswer N x1 rRules leads answers = some r9) : Met l yX3_leadsToOtherAnswer wsX3_leadsToOtherAnswer rm_X3_leadsToOtherAnswer (Pz dC dI cyI cyJ cyZ [.ref qE, .int x1] sz (w_X3_leadsToOtherAnswer cyI cyJ cyZ qE q_por q_confs q_near q_leads q_agrees q_answers q_hopes q_opens q_most q_ready rRules rCount leads answers) X0) (Qzi dC dI cyI cyJ cyZ (va_A (w_X3_leadsToOtherAnswer cyI cyJ cyZ qE q_por q_confs q_near q_leads q_agrees q_answers q_hopes q_opens q_most q_ready rRules rCount leads answers) sz) (w_X3_leadsToOtherAnswer cyI cyJ cyZ qE q_por q_confs q_near q_leads q_agrees q_answers q_hopes q_opens q_most q_ready rRules rCount leads answers) r9) 0 0 (va_A (w_X3_leadsToOtherAnswer cyI cyJ cyZ qE q_por q_confs q_near q_leads q_agrees q_answers q_hopes q_opens q_most q_ready rRules rCount leads answers) sz) := by
  refine Met_of (cc := cX3_leadsToOtherAnswer) (maxL := 4) (ret := (some .boolean)) (by decide) rfl (Nat.le_of_ble_eq_true rfl) ?_
  intro p e s m args below meth c ls C0 hsz hXs hP hD hS hl
  exact t_X3_leadsToOtherAnswer C0 hXs hf s.heap [] ls hP hD hS hl
abbrev w_X3_takeAnswersAway (cyI cyJ cyZ : ClassId) (qE q_por q_confs q_near q_leads q_agrees q_answers q_hopes q_opens q_most q_ready : Nat) (rRules : Int32) (rCount : Int32) (leads : Nat → Int32) (answers : Nat → Int32) : va_W := [(qE, .inr (2, [.ref q_por, .ref q_confs, .ref q_near, .ref q_leads, .ref q_agrees, .ref q_answers, .ref q_hopes, .ref q_opens, .ref q_most, .ref q_ready, .int rRules, .int rCount])), (q_leads, .inl (cyI, 5544, .inl leads)), (q_answers, .inl (cyI, 462, .inl answers))]
abbrev rm_X3_takeAnswersAway : Room := { frames := 2, cells := 0, slots := 0, locals := 45 }
theorem hn_X3_takeAnswersAway_X3 : ∀ w ∈ wsX30, w ∈ wsX3_takeAnswersAway := fun _ h => List.mem_cons_of_mem _ (List.mem_append_right _ h)
def f_X3_takeAnswersAway_b9 (N : Nat) (rRules : Int32) (rCount : Int32) (leads : Nat → Int32) (x1 : Int32) (x2 : Int32) (answers : Nat → Int32) : Option ((Int32 × Int32 × (Nat → Int32)) ⊕ (Int32 × (Nat → Int32))) :=
  (if x2 < 0 then some (Sum.inr (x1, answers)) else gd (inb x2 462) ((if (answers x2.toNatClampNeg) = (-9) then nm (x2 + (-1)) (fun x2_5 => some (Sum.inl (x1, x2_5, answers))) else bd1 (f_X3_leadsToOtherAnswer N x2 rRules leads answers) (fun r_6 => (if r_6 = 0 then nm (x2 + (-1)) (fun x2_8 => some (Sum.inl (x1, x2_8, answers))) else gd (inb x2 462) (nm (upd answers x2.toNatClampNeg (-9)) (fun answers_10 => nm (x2 + (-1)) (fun x2_11 => some (Sum.inl (1, x2_11, answers_10))))))))))
set_option maxHeartbeats 4000000 in
set_option maxRecDepth 100000 in
theorem t_X3_takeAnswersAway_b9 (C0 : Cx p s m args meth c cX3_takeAnswersAway (some .boolean) 3 RX3 wsX3_takeAnswersAway A dC dI cyI cyJ cyZ) {qE q_por q_confs q_near q_leads q_agrees q_answers q_hopes q_opens q_most q_ready : Nat} (hXs : X0 A s) {N : Nat} {rRules : Int32} {rCount : Int32} {leads : Nat → Int32} {x1 : Int32} {x2 : Int32} {answers : Nat → Int32} {r9 : Int32} {answers9 : Nat → Int32} {r : (Int32 × Int32 × (Nat → Int32)) ⊕ (Int32 × (Nat → Int32))} (hf : f_X3_takeAnswersAway_b9 N rRules rCount leads x1 x2 answers = some r) (Kh : ∀ (zx1 : Int32) (zx2 : Int32) (zanswers : Nat → Int32), r = Sum.inl (zx1, zx2, zanswers) → ∀ (H : Heap) (locs : List Loc) (ls : Array Slot), va_P (dC, dI) vwCl (w_X3_takeAnswersAway cyI cyJ cyZ qE q_por q_confs q_near q_leads q_agrees q_answers q_hopes q_opens q_most q_ready rRules rCount leads zanswers) H → va_D A (w_X3_takeAnswersAway cyI cyJ cyZ qE q_por q_confs q_near q_leads q_agrees q_answers q_hopes q_opens q_most q_ready rRules rCount leads zanswers) → va_S A s.heap H locs → lv_has ls 3 [(0, .ref qE), (1, .int zx1), (2, .int zx2)] → W p l e rm_X3_takeAnswersAway s m args below meth c H locs 0 0 (MQ below (Qzi dC dI cyI cyJ cyZ A (w_X3_takeAnswersAway cyI cyJ cyZ qE q_por q_confs q_near q_leads q_agrees q_answers q_hopes q_opens q_most q_ready rRules rCount leads answers9) r9) args s 0 0 A) (F0 m 9 ls [])) (Ke : ∀ (zx1 : Int32) (zanswers : Nat → Int32), r = Sum.inr (zx1, zanswers) → ∀ (H : Heap) (locs : List Loc) (ls : Array Slot), va_P (dC, dI) vwCl (w_X3_takeAnswersAway cyI cyJ cyZ qE q_por q_confs q_near q_leads q_agrees q_answers q_hopes q_opens q_most q_ready rRules rCount leads zanswers) H → va_D A (w_X3_takeAnswersAway cyI cyJ cyZ qE q_por q_confs q_near q_leads q_agrees q_answers q_hopes q_opens q_most q_ready rRules rCount leads zanswers) → va_S A s.heap H locs → lv_has ls 3 [(1, .int zx1)] → W p l e rm_X3_takeAnswersAway s m args below meth c H locs 0 0 (MQ below (Qzi dC dI cyI cyJ cyZ A (w_X3_takeAnswersAway cyI cyJ cyZ qE q_por q_confs q_near q_leads q_agrees q_answers q_hopes q_opens q_most q_ready rRules rCount leads answers9) r9) args s 0 0 A) (F0 m 48 ls [])) (H : Heap) (locs : List Loc) (ls : Array Slot) (hP : va_P (dC, dI) vwCl (w_X3_takeAnswersAway cyI cyJ cyZ qE q_por q_confs q_near q_leads q_agrees q_answers q_hopes q_opens q_most q_ready rRules rCount leads answers) H) (hD : va_D A (w_X3_takeAnswersAway cyI cyJ cyZ qE q_por q_confs q_near q_leads q_agrees q_answers q_hopes q_opens q_most q_ready rRules rCount leads answers)) (hS : va_S A s.heap H locs) (hl : lv_has ls 3 [(0, .ref qE), (1, .int x1), (2, .int x2)]) : W p l e rm_X3_takeAnswersAway s m args below meth c H locs 0 0 (MQ below (Qzi dC dI cyI cyJ cyZ A (w_X3_takeAnswersAway cyI cyJ cyZ qE q_por q_confs q_near q_leads q_agrees q_answers q_hopes q_opens q_most q_ready rRules rCount leads answers9) r9) args s 0 0 A) (F0 m 9 ls []) := by
  have C1 := C0
  obtain ⟨hx, hb, hr, hlocks, hml, hown, hts, hA, hK⟩ := C1
  unfold f_X3_takeAnswersAway_b9 at hf
  refine lv_iload_n hx hb dX3_takeAnswersAway_9 rfl (lv_at hl 2 rfl) ?_
  refine lv_if_lt (tgt := 48) hx hb dX3_takeAnswersAway_10 (by decide) (fun c_2 => ?_) (fun c_2 => ?_)
  · replace hf := it_t hf c_2
    exact Ke _ _ (Option.some.inj hf).symm H locs ls hP hD hS (lv_sub hl [1] rfl)
  · replace hf := it_f hf c_2
    refine lv_aload_n hx hb dX3_takeAnswersAway_13 rfl (lv_at hl 0 rfl) ?_
    refine va_get (D := (dC, dI)) (ci := 2) (v := .ref q_answers) (C := RX3) (T := TX3) (N := 12) hx hb hts hn_X3_takeAnswersAway_X3 hown hK hP 0 rfl rfl 5 (by decide) (hts (.fieldLink RX3 29 "MetAgents$Reach" "answers" "[I") (List.mem_of_getElem? (i := 2) rfl)) (fun _ h9 => h9) rfl dX3_takeAnswersAway_14 ?_
    refine lv_iload_n hx hb dX3_takeAnswersAway_17 rfl (lv_at hl 2 rfl) ?_
    obtain ⟨h_3, hf⟩ := gd_el hf
    refine va_iald hx hb hK hP 2 0 rfl rfl (inb_in h_3) dX3_takeAnswersAway_18 ?_
    refine lv_bipush (v := (-9)) hx hb dX3_takeAnswersAway_19 (by decide) ?_
    refine lv_icmp_eq (tgt := 42) hx hb dX3_takeAnswersAway_21 (by decide) (fun c_4 => ?_) (fun c_4 => ?_)
    · replace hf := it_t hf c_4
      obtain ⟨x2_5, e_5, hf⟩ := nm_el hf
      refine lv_iinc (v := x2_5) (lv' := [(2, .int x2_5), (0, .ref qE), (1, .int x1)]) hx hb dX3_takeAnswersAway_42 hl (k := 2) rfl (by rw [e_5]; rfl) (by decide) rfl (fun ls hl => ?_)
      refine lv_goto (tgt := 9) hx hb dX3_takeAnswersAway_45 (by decide) ?_
      exact Kh _ _ _ (Option.some.inj hf).symm H locs ls hP hD hS (lv_sub hl [1, 2, 0] rfl)
    · replace hf := it_f hf c_4
      refine lv_aload_n hx hb dX3_takeAnswersAway_24 rfl (lv_at hl 0 rfl) ?_
      refine lv_iload_n hx hb dX3_takeAnswersAway_25 rfl (lv_at hl 2 rfl) ?_
      obtain ⟨r_6, hc, hf⟩ := bd1_el hf
      refine cl_i (wc := (w_X3_leadsToOtherAnswer cyI cyJ cyZ qE q_por q_confs q_near q_leads q_agrees q_answers q_hopes q_opens q_most q_ready rRules rCount leads answers)) (wr := []) (w1 := (w_X3_leadsToOtherAnswer cyI cyJ cyZ qE q_por q_confs q_near q_leads q_agrees q_answers q_hopes q_opens q_most q_ready rRules rCount leads answers)) (w2 := (w_X3_takeAnswersAway cyI cyJ cyZ qE q_por q_confs q_near q_leads q_agrees q_answers q_hopes q_opens q_most q_ready rRules rCount leads answers)) C0 (rn_V (As := [.int x2]) (rest := []) (wc := (w_X3_leadsToOtherAnswer cyI cyJ cyZ qE q_por q_confs q_near q_leads q_agrees q_answers q_hopes q_opens q_most q_ready rRules rCount leads answers)) (X := X0) C0 (c_X3_leadsToOtherAnswer l dC dI cyI cyJ cyZ qE q_por q_confs q_near q_leads q_agrees q_answers q_hopes q_opens q_most q_ready H.size N x2 rRules leads answers rCount r_6 hc) (cwV 1 hts gX3_takeAnswersAway_X3_leadsToOtherAnswer rfl rfl rfl (by decide +kernel) ⟨Nat.le_of_ble_eq_true rfl, Nat.le_of_ble_eq_true rfl⟩) X0_car trivial hP hD hS [0, 1, 2] rfl rfl 0 2 rfl rfl rfl hl.1 rfl (Nat.le_of_ble_eq_true rfl) dX3_takeAnswersAway_26 ⟨Nat.le_of_ble_eq_true rfl, Nat.le_of_ble_eq_true rfl⟩) hP hD hS [0, 1, 2] [] [0, 1, 2] rfl rfl rfl (by decide) rfl rfl (fun H locs hP hD hS => ?_)
      refine lv_if_eq (tgt := 42) hx hb dX3_takeAnswersAway_29 (by decide) (fun c_7 => ?_) (fun c_7 => ?_)
      · replace hf := it_t hf c_7
        obtain ⟨x2_8, e_8, hf⟩ := nm_el hf
        refine lv_iinc (v := x2_8) (lv' := [(2, .int x2_8), (0, .ref qE), (1, .int x1)]) hx hb dX3_takeAnswersAway_42 hl (k := 2) rfl (by rw [e_8]; rfl) (by decide) rfl (fun ls hl => ?_)
        refine lv_goto (tgt := 9) hx hb dX3_takeAnswersAway_45 (by decide) ?_
        exact Kh _ _ _ (Option.some.inj hf).symm H locs ls hP hD hS (lv_sub hl [1, 2, 0] rfl)
      · replace hf := it_f hf c_7
        refine lv_aload_n hx hb dX3_takeAnswersAway_32 rfl (lv_at hl 0 rfl) ?_
        refine va_get (D := (dC, dI)) (ci := 2) (v := .ref q_answers) (C := RX3) (T := TX3) (N := 12) hx hb hts hn_X3_takeAnswersAway_X3 hown hK hP 0 rfl rfl 5 (by decide) (hts (.fieldLink RX3 29 "MetAgents$Reach" "answers" "[I") (List.mem_of_getElem? (i := 2) rfl)) (fun _ h9 => h9) rfl dX3_takeAnswersAway_33 ?_
        refine lv_iload_n hx hb dX3_takeAnswersAway_36 rfl (lv_at hl 2 rfl) ?_
        refine lv_bipush (v := (-9)) hx hb dX3_takeAnswersAway_37 (by decide) ?_
        obtain ⟨h_9, hf⟩ := gd_el hf
        obtain ⟨answers_10, e_10, hf⟩ := nm_el hf
        refine ast_i (w2 := (w_X3_takeAnswersAway cyI cyJ cyZ qE q_por q_confs q_near q_leads q_agrees q_answers q_hopes q_opens q_most q_ready rRules rCount leads answers_10)) hx hb hK hP hD hS 2 0 rfl rfl (inb_in h_9) e_10 rfl dX3_takeAnswersAway_39 (fun H locs hP hD hS => ?_)
        refine lv_iconst (v := 1) hx hb dX3_takeAnswersAway_40 (by decide) ?_
        refine lv_istore_n (lv' := [(1, .int 1), (0, .ref qE), (2, .int x2)]) hx hb dX3_takeAnswersAway_41 rfl hl (by decide) rfl (fun ls hl => ?_)
        obtain ⟨x2_11, e_11, hf⟩ := nm_el hf
        refine lv_iinc (v := x2_11) (lv' := [(2, .int x2_11), (1, .int 1), (0, .ref qE)]) hx hb dX3_takeAnswersAway_42 hl (k := 2) rfl (by rw [e_11]; rfl) (by decide) rfl (fun ls hl => ?_)
        refine lv_goto (tgt := 9) hx hb dX3_takeAnswersAway_45 (by decide) ?_
        exact Kh _ _ _ (Option.some.inj hf).symm H locs ls hP hD hS (lv_sub hl [2, 1, 0] rfl)
set_option maxHeartbeats 4000000 in
set_option maxRecDepth 100000 in
theorem l_X3_takeAnswersAway_b9 (C0 : Cx p s m args meth c cX3_takeAnswersAway (some .boolean) 3 RX3 wsX3_takeAnswersAway A dC dI cyI cyJ cyZ) {qE q_por q_confs q_near q_leads q_agrees q_answers q_hopes q_opens q_most q_ready : Nat} (hXs : X0 A s) {N : Nat} {rRules : Int32} {rCount : Int32} {leads : Nat → Int32} {r9 : Int32} {answers9 : Nat → Int32} {z : Int32 × (Nat → Int32)} (Ke : ∀ (zx1 : Int32) (zanswers : Nat → Int32), z = (zx1, zanswers) → ∀ (H : Heap) (locs : List Loc) (ls : Array Slot), va_P (dC, dI) vwCl (w_X3_takeAnswersAway cyI cyJ cyZ qE q_por q_confs q_near q_leads q_agrees q_answers q_hopes q_opens q_most q_ready rRules rCount leads zanswers) H → va_D A (w_X3_takeAnswersAway cyI cyJ cyZ qE q_por q_confs q_near q_leads q_agrees q_answers q_hopes q_opens q_most q_ready rRules rCount leads zanswers) → va_S A s.heap H locs → lv_has ls 3 [(1, .int zx1)] → W p l e rm_X3_takeAnswersAway s m args below meth c H locs 0 0 (MQ below (Qzi dC dI cyI cyJ cyZ A (w_X3_takeAnswersAway cyI cyJ cyZ qE q_por q_confs q_near q_leads q_agrees q_answers q_hopes q_opens q_most q_ready rRules rCount leads answers9) r9) args s 0 0 A) (F0 m 48 ls [])) : ∀ (n9 : Nat) (x1 : Int32) (x2 : Int32) (answers : Nat → Int32), loopN (fun (w9 : Int32 × Int32 × (Nat → Int32)) => f_X3_takeAnswersAway_b9 N rRules rCount leads w9.1 w9.2.1 w9.2.2) n9 (x1, x2, answers) = some z → ∀ (H : Heap) (locs : List Loc) (ls : Array Slot), va_P (dC, dI) vwCl (w_X3_takeAnswersAway cyI cyJ cyZ qE q_por q_confs q_near q_leads q_agrees q_answers q_hopes q_opens q_most q_ready rRules rCount leads answers) H → va_D A (w_X3_takeAnswersAway cyI cyJ cyZ qE q_por q_confs q_near q_leads q_agrees q_answers q_hopes q_opens q_most q_ready rRules rCount leads answers) → va_S A s.heap H locs → lv_has ls 3 [(0, .ref qE), (1, .int x1), (2, .int x2)] → W p l e rm_X3_takeAnswersAway s m args below meth c H locs 0 0 (MQ below (Qzi dC dI cyI cyJ cyZ A (w_X3_takeAnswersAway cyI cyJ cyZ qE q_por q_confs q_near q_leads q_agrees q_answers q_hopes q_opens q_most q_ready rRules rCount leads answers9) r9) args s 0 0 A) (F0 m 9 ls []) := by
  intro n9
  induction n9 with
  | zero => intro _ _ _ h; cases h
  | succ n9 ih =>
    intro x1 x2 answers h H locs ls hP hD hS hl
    rcases loopN_el h with ⟨y9, h1, h2⟩ | h1
    · exact t_X3_takeAnswersAway_b9 C0 hXs  h1 (fun zx1 zx2 zanswers q9 H locs ls hP hD hS hl => ih zx1 zx2 zanswers (by cases q9; exact h2) H locs ls hP hD hS hl) (fun _ _ q9 => by cases q9) H locs ls hP hD hS hl
    · exact t_X3_takeAnswersAway_b9 C0 hXs  h1 (fun _ _ _ q9 => by cases q9) (fun ex1 eanswers q9 => Ke ex1 eanswers (by cases q9; rfl)) H locs ls hP hD hS hl
def f_X3_takeAnswersAway (N : Nat) (rRules : Int32) (rCount : Int32) (leads : Nat → Int32) (answers : Nat → Int32) : Option (Int32 × (Nat → Int32)) :=
  nm (rCount - 1) (fun x2_1 => bd2 (loopN (fun (w9 : Int32 × Int32 × (Nat → Int32)) => f_X3_takeAnswersAway_b9 N rRules rCount leads w9.1 w9.2.1 w9.2.2) N (0, x2_1, answers)) (fun x1_12 answers_13 => gd (bz x1_12) (some (x1_12, answers_13))))
set_option maxHeartbeats 4000000 in
set_option maxRecDepth 100000 in
theorem t_X3_takeAnswersAway (C0 : Cx p s m args meth c cX3_takeAnswersAway (some .boolean) 3 RX3 wsX3_takeAnswersAway A dC dI cyI cyJ cyZ) {qE q_por q_confs q_near q_leads q_agrees q_answers q_hopes q_opens q_most q_ready : Nat} (hXs : X0 A s) {N : Nat} {rRules : Int32} {rCount : Int32} {leads : Nat → Int32} {answers : Nat → Int32} {r9 : Int32} {answers9 : Nat → Int32} (hf : f_X3_takeAnswersAway N rRules rCount leads answers = some (r9, answers9)) (H : Heap) (locs : List Loc) (ls : Array Slot) (hP : va_P (dC, dI) vwCl (w_X3_takeAnswersAway cyI cyJ cyZ qE q_por q_confs q_near q_leads q_agrees q_answers q_hopes q_opens q_most q_ready rRules rCount leads answers) H) (hD : va_D A (w_X3_takeAnswersAway cyI cyJ cyZ qE q_por q_confs q_near q_leads q_agrees q_answers q_hopes q_opens q_most q_ready rRules rCount leads answers)) (hS : va_S A s.heap H locs) (hl : lv_has ls 3 [(0, .ref qE)]) : W p l e rm_X3_takeAnswersAway s m args below meth c H locs 0 0 (MQ below (Qzi dC dI cyI cyJ cyZ A (w_X3_takeAnswersAway cyI cyJ cyZ qE q_por q_confs q_near q_leads q_agrees q_answers q_hopes q_opens q_most q_ready rRules rCount leads answers9) r9) args s 0 0 A) (F0 m 0 ls []) := by
  have C1 := C0
  obtain ⟨hx, hb, hr, hlocks, hml, hown, hts, hA, hK⟩ := C1
  unfold f_X3_takeAnswersAway at hf
  refine lv_iconst (v := 0) hx hb dX3_takeAnswersAway_0 (by decide) ?_
  refine lv_istore_n (lv' := [(1, .int 0), (0, .ref qE)]) hx hb dX3_takeAnswersAway_1 rfl hl (by decide) rfl (fun ls hl => ?_)
  refine lv_aload_n hx hb dX3_takeAnswersAway_2 rfl (lv_at hl 1 rfl) ?_
  refine va_get (D := (dC, dI)) (ci := 2) (v := .int rCount) (C := RX3) (T := TX3) (N := 12) hx hb hts hn_X3_takeAnswersAway_X3 hown hK hP 0 rfl rfl 11 (by decide) (hts (.fieldLink RX3 60 "MetAgents$Reach" "count" "I") (List.mem_of_getElem? (i := 1) rfl)) (fun _ h9 => h9) rfl dX3_takeAnswersAway_3 ?_
  refine lv_iconst (v := 1) hx hb dX3_takeAnswersAway_6 (by decide) ?_
  refine lv_isub hx hb dX3_takeAnswersAway_7 ?_
  obtain ⟨x2_1, e_1, hf⟩ := nm_el hf
  refine top_i e_1 ?_
  refine lv_istore_n (lv' := [(2, .int x2_1), (1, .int 0), (0, .ref qE)]) hx hb dX3_takeAnswersAway_8 rfl hl (by decide) rfl (fun ls hl => ?_)
  obtain ⟨x1_12, answers_13, hlp, hf⟩ := bd2_el hf
  refine l_X3_takeAnswersAway_b9 C0 hXs (fun x1_12 answers_13 q9 H locs ls hP hD hS hl => ?_) N _ _ _ hlp H locs ls hP hD hS (lv_sub hl [2, 1, 0] rfl)
  cases q9
  refine lv_iload_n hx hb dX3_takeAnswersAway_48 rfl (lv_at hl 0 rfl) ?_
  obtain ⟨h_14, hf⟩ := gd_el hf
  cases hf
  exact W.zret hx hb hr (bz_nar h_14) (fun t ht hW => ⟨⟨_, (), rfl, rfl, by rw [ht]; exact hP, va_K.moved hW.alike hK, hD⟩, hS.F ht⟩) hS.2.2 dX3_takeAnswersAway_49
set_option maxHeartbeats 4000000 in
set_option maxRecDepth 100000 in
theorem c_X3_takeAnswersAway (l : Launch) (dC : Nat → ClassId) (dI : Nat → Nat → Nat) (cyI cyJ cyZ : ClassId) (qE q_por q_confs q_near q_leads q_agrees q_answers q_hopes q_opens q_most q_ready : Nat) (sz N : Nat) (rRules : Int32) (rCount : Int32) (leads : Nat → Int32) (answers : Nat → Int32) (r9 : Int32) (answers9 : Nat → Int32) (hf : f_X3_takeAnswersAway N rRules rCount leads answers = some (r9, answers9)) : Met l yX3_takeAnswersAway wsX3_takeAnswersAway rm_X3_takeAnswersAway (Pz dC dI cyI cyJ cyZ [.ref qE] sz (w_X3_takeAnswersAway cyI cyJ cyZ qE q_por q_confs q_near q_leads q_agrees q_answers q_hopes q_opens q_most q_ready rRules rCount leads answers) X0) (Qzi dC dI cyI cyJ cyZ (va_A (w_X3_takeAnswersAway cyI cyJ cyZ qE q_por q_confs q_near q_leads q_agrees q_answers q_hopes q_opens q_most q_ready rRules rCount leads answers) sz) (w_X3_takeAnswersAway cyI cyJ cyZ qE q_por q_confs q_near q_leads q_agrees q_answers q_hopes q_opens q_most q_ready rRules rCount leads answers9) r9) 0 0 (va_A (w_X3_takeAnswersAway cyI cyJ cyZ qE q_por q_confs q_near q_leads q_agrees q_answers q_hopes q_opens q_most q_ready rRules rCount leads answers) sz) := by
  refine Met_of (cc := cX3_takeAnswersAway) (maxL := 3) (ret := (some .boolean)) (by decide) rfl (Nat.le_of_ble_eq_true rfl) ?_
  intro p e s m args below meth c ls C0 hsz hXs hP hD hS hl
  exact t_X3_takeAnswersAway C0 hXs hf s.heap [] ls hP hD hS hl
abbrev w_X3_howManyAgreed (cyI cyJ cyZ : ClassId) (qE q_por q_confs q_near q_leads q_agrees q_answers q_hopes q_opens q_most q_ready : Nat) (rRules : Int32) (rCount : Int32) (agrees : Nat → Int32) : va_W := [(qE, .inr (2, [.ref q_por, .ref q_confs, .ref q_near, .ref q_leads, .ref q_agrees, .ref q_answers, .ref q_hopes, .ref q_opens, .ref q_most, .ref q_ready, .int rRules, .int rCount])), (q_agrees, .inl (cyI, 462, .inl agrees))]
abbrev rm_X3_howManyAgreed : Room := { frames := 0, cells := 0, slots := 0, locals := 0 }
theorem hn_X3_howManyAgreed_X3 : ∀ w ∈ wsX30, w ∈ wsX3_howManyAgreed := fun _ h => List.mem_cons_of_mem _ (List.mem_append_right _ h)
def f_X3_howManyAgreed_b4 (N : Nat) (rCount : Int32) (agrees : Nat → Int32) (x1 : Int32) (x2 : Int32) : Option ((Int32 × Int32) ⊕ (Int32)) :=
  (if rCount ≤ x2 then some (Sum.inr x1) else gd (inb x2 462) ((if (agrees x2.toNatClampNeg) = (-9) then nm (x2 + 1) (fun x2_4 => some (Sum.inl (x1, x2_4))) else nm (x1 + 1) (fun x1_5 => nm (x2 + 1) (fun x2_6 => some (Sum.inl (x1_5, x2_6)))))))
set_option maxHeartbeats 4000000 in
set_option maxRecDepth 100000 in
theorem t_X3_howManyAgreed_b4 (C0 : Cx p s m args meth c cX3_howManyAgreed (some .int) 3 RX3 wsX3_howManyAgreed A dC dI cyI cyJ cyZ) {qE q_por q_confs q_near q_leads q_agrees q_answers q_hopes q_opens q_most q_ready : Nat} (hXs : X0 A s) {N : Nat} {rCount : Int32} {agrees : Nat → Int32} {x1 : Int32} {x2 : Int32} {rRules : Int32} {r9 : Int32} {r : (Int32 × Int32) ⊕ (Int32)} (hf : f_X3_howManyAgreed_b4 N rCount agrees x1 x2 = some r) (Kh : ∀ (zx1 : Int32) (zx2 : Int32), r = Sum.inl (zx1, zx2) → ∀ (H : Heap) (locs : List Loc) (ls : Array Slot), va_P (dC, dI) vwCl (w_X3_howManyAgreed cyI cyJ cyZ qE q_por q_confs q_near q_leads q_agrees q_answers q_hopes q_opens q_most q_ready rRules rCount agrees) H → va_D A (w_X3_howManyAgreed cyI cyJ cyZ qE q_por q_confs q_near q_leads q_agrees q_answers q_hopes q_opens q_most q_ready rRules rCount agrees) → va_S A s.heap H locs → lv_has ls 3 [(0, .ref qE), (1, .int zx1), (2, .int zx2)] → W p l e rm_X3_howManyAgreed s m args below meth c H locs 0 0 (MQ below (Qzi dC dI cyI cyJ cyZ A (w_X3_howManyAgreed cyI cyJ cyZ qE q_por q_confs q_near q_leads q_agrees q_answers q_hopes q_opens q_most q_ready rRules rCount agrees) r9) args s 0 0 A) (F0 m 4 ls [])) (Ke : ∀ (zx1 : Int32), r = Sum.inr zx1 → ∀ (H : Heap) (locs : List Loc) (ls : Array Slot), va_P (dC, dI) vwCl (w_X3_howManyAgreed cyI cyJ cyZ qE q_por q_confs q_near q_leads q_agrees q_answers q_hopes q_opens q_most q_ready rRules rCount agrees) H → va_D A (w_X3_howManyAgreed cyI cyJ cyZ qE q_por q_confs q_near q_leads q_agrees q_answers q_hopes q_opens q_most q_ready rRules rCount agrees) → va_S A s.heap H locs → lv_has ls 3 [(1, .int zx1)] → W p l e rm_X3_howManyAgreed s m args below meth c H locs 0 0 (MQ below (Qzi dC dI cyI cyJ cyZ A (w_X3_howManyAgreed cyI cyJ cyZ qE q_por q_confs q_near q_leads q_agrees q_answers q_hopes q_opens q_most q_ready rRules rCount agrees) r9) args s 0 0 A) (F0 m 32 ls [])) (H : Heap) (locs : List Loc) (ls : Array Slot) (hP : va_P (dC, dI) vwCl (w_X3_howManyAgreed cyI cyJ cyZ qE q_por q_confs q_near q_leads q_agrees q_answers q_hopes q_opens q_most q_ready rRules rCount agrees) H) (hD : va_D A (w_X3_howManyAgreed cyI cyJ cyZ qE q_por q_confs q_near q_leads q_agrees q_answers q_hopes q_opens q_most q_ready rRules rCount agrees)) (hS : va_S A s.heap H locs) (hl : lv_has ls 3 [(0, .ref qE), (1, .int x1), (2, .int x2)]) : W p l e rm_X3_howManyAgreed s m args below meth c H locs 0 0 (MQ below (Qzi dC dI cyI cyJ cyZ A (w_X3_howManyAgreed cyI cyJ cyZ qE q_por q_confs q_near q_leads q_agrees q_answers q_hopes q_opens q_most q_ready rRules rCount agrees) r9) args s 0 0 A) (F0 m 4 ls []) := by
  have C1 := C0
  obtain ⟨hx, hb, hr, hlocks, hml, hown, hts, hA, hK⟩ := C1
  unfold f_X3_howManyAgreed_b4 at hf
  refine lv_iload_n hx hb dX3_howManyAgreed_4 rfl (lv_at hl 2 rfl) ?_
  refine lv_aload_n hx hb dX3_howManyAgreed_5 rfl (lv_at hl 0 rfl) ?_
  refine va_get (D := (dC, dI)) (ci := 2) (v := .int rCount) (C := RX3) (T := TX3) (N := 12) hx hb hts hn_X3_howManyAgreed_X3 hown hK hP 0 rfl rfl 11 (by decide) (hts (.fieldLink RX3 60 "MetAgents$Reach" "count" "I") (List.mem_of_getElem? (i := 1) rfl)) (fun _ h9 => h9) rfl dX3_howManyAgreed_6 ?_
  refine lv_icmp_ge (tgt := 32) hx hb dX3_howManyAgreed_9 (by decide) (fun c_1 => ?_) (fun c_1 => ?_)
  · replace hf := it_t hf c_1
    exact Ke _ (Option.some.inj hf).symm H locs ls hP hD hS (lv_sub hl [1] rfl)
  · replace hf := it_f hf c_1
    refine lv_aload_n hx hb dX3_howManyAgreed_12 rfl (lv_at hl 0 rfl) ?_
    refine va_get (D := (dC, dI)) (ci := 2) (v := .ref q_agrees) (C := RX3) (T := TX3) (N := 12) hx hb hts hn_X3_howManyAgreed_X3 hown hK hP 0 rfl rfl 4 (by decide) (hts (.fieldLink RX3 26 "MetAgents$Reach" "agreements" "[I") (List.mem_of_getElem? (i := 2) rfl)) (fun _ h9 => h9) rfl dX3_howManyAgreed_13 ?_
    refine lv_iload_n hx hb dX3_howManyAgreed_16 rfl (lv_at hl 2 rfl) ?_
    obtain ⟨h_2, hf⟩ := gd_el hf
    refine va_iald hx hb hK hP 1 0 rfl rfl (inb_in h_2) dX3_howManyAgreed_17 ?_
    refine lv_bipush (v := (-9)) hx hb dX3_howManyAgreed_18 (by decide) ?_
    refine lv_icmp_eq (tgt := 26) hx hb dX3_howManyAgreed_20 (by decide) (fun c_3 => ?_) (fun c_3 => ?_)
    · replace hf := it_t hf c_3
      obtain ⟨x2_4, e_4, hf⟩ := nm_el hf
      refine lv_iinc (v := x2_4) (lv' := [(2, .int x2_4), (0, .ref qE), (1, .int x1)]) hx hb dX3_howManyAgreed_26 hl (k := 2) rfl (by rw [e_4]; rfl) (by decide) rfl (fun ls hl => ?_)
      refine lv_goto (tgt := 4) hx hb dX3_howManyAgreed_29 (by decide) ?_
      exact Kh _ _ (Option.some.inj hf).symm H locs ls hP hD hS (lv_sub hl [1, 2, 0] rfl)
    · replace hf := it_f hf c_3
      obtain ⟨x1_5, e_5, hf⟩ := nm_el hf
      refine lv_iinc (v := x1_5) (lv' := [(1, .int x1_5), (0, .ref qE), (2, .int x2)]) hx hb dX3_howManyAgreed_23 hl (k := 1) rfl (by rw [e_5]; rfl) (by decide) rfl (fun ls hl => ?_)
      obtain ⟨x2_6, e_6, hf⟩ := nm_el hf
      refine lv_iinc (v := x2_6) (lv' := [(2, .int x2_6), (1, .int x1_5), (0, .ref qE)]) hx hb dX3_howManyAgreed_26 hl (k := 2) rfl (by rw [e_6]; rfl) (by decide) rfl (fun ls hl => ?_)
      refine lv_goto (tgt := 4) hx hb dX3_howManyAgreed_29 (by decide) ?_
      exact Kh _ _ (Option.some.inj hf).symm H locs ls hP hD hS (lv_sub hl [2, 1, 0] rfl)
set_option maxHeartbeats 4000000 in
set_option maxRecDepth 100000 in
theorem l_X3_howManyAgreed_b4 (C0 : Cx p s m args meth c cX3_howManyAgreed (some .int) 3 RX3 wsX3_howManyAgreed A dC dI cyI cyJ cyZ) {qE q_por q_confs q_near q_leads q_agrees q_answers q_hopes q_opens q_most q_ready : Nat} (hXs : X0 A s) {N : Nat} {rCount : Int32} {agrees : Nat → Int32} {rRules : Int32} {r9 : Int32} {z : Int32} (Ke : ∀ (zx1 : Int32), z = zx1 → ∀ (H : Heap) (locs : List Loc) (ls : Array Slot), va_P (dC, dI) vwCl (w_X3_howManyAgreed cyI cyJ cyZ qE q_por q_confs q_near q_leads q_agrees q_answers q_hopes q_opens q_most q_ready rRules rCount agrees) H → va_D A (w_X3_howManyAgreed cyI cyJ cyZ qE q_por q_confs q_near q_leads q_agrees q_answers q_hopes q_opens q_most q_ready rRules rCount agrees) → va_S A s.heap H locs → lv_has ls 3 [(1, .int zx1)] → W p l e rm_X3_howManyAgreed s m args below meth c H locs 0 0 (MQ below (Qzi dC dI cyI cyJ cyZ A (w_X3_howManyAgreed cyI cyJ cyZ qE q_por q_confs q_near q_leads q_agrees q_answers q_hopes q_opens q_most q_ready rRules rCount agrees) r9) args s 0 0 A) (F0 m 32 ls [])) : ∀ (n9 : Nat) (x1 : Int32) (x2 : Int32), loopN (fun (w9 : Int32 × Int32) => f_X3_howManyAgreed_b4 N rCount agrees w9.1 w9.2) n9 (x1, x2) = some z → ∀ (H : Heap) (locs : List Loc) (ls : Array Slot), va_P (dC, dI) vwCl (w_X3_howManyAgreed cyI cyJ cyZ qE q_por q_confs q_near q_leads q_agrees q_answers q_hopes q_opens q_most q_ready rRules rCount agrees) H → va_D A (w_X3_howManyAgreed cyI cyJ cyZ qE q_por q_confs q_near q_leads q_agrees q_answers q_hopes q_opens q_most q_ready rRules rCount agrees) → va_S A s.heap H locs → lv_has ls 3 [(0, .ref qE), (1, .int x1), (2, .int x2)] → W p l e rm_X3_howManyAgreed s m args below meth c H locs 0 0 (MQ below (Qzi dC dI cyI cyJ cyZ A (w_X3_howManyAgreed cyI cyJ cyZ qE q_por q_confs q_near q_leads q_agrees q_answers q_hopes q_opens q_most q_ready rRules rCount agrees) r9) args s 0 0 A) (F0 m 4 ls []) := by
  intro n9
  induction n9 with
  | zero => intro _ _ h; cases h
  | succ n9 ih =>
    intro x1 x2 h H locs ls hP hD hS hl
    rcases loopN_el h with ⟨y9, h1, h2⟩ | h1
    · exact t_X3_howManyAgreed_b4 C0 hXs  h1 (fun zx1 zx2 q9 H locs ls hP hD hS hl => ih zx1 zx2 (by cases q9; exact h2) H locs ls hP hD hS hl) (fun _ q9 => by cases q9) H locs ls hP hD hS hl
    · exact t_X3_howManyAgreed_b4 C0 hXs  h1 (fun _ _ q9 => by cases q9) (fun ex1 q9 => Ke ex1 (by cases q9; rfl)) H locs ls hP hD hS hl
def f_X3_howManyAgreed (N : Nat) (rCount : Int32) (agrees : Nat → Int32) : Option (Int32) :=
  bd1 (loopN (fun (w9 : Int32 × Int32) => f_X3_howManyAgreed_b4 N rCount agrees w9.1 w9.2) N (0, 0)) (fun x1_7 => some x1_7)
set_option maxHeartbeats 4000000 in
set_option maxRecDepth 100000 in
theorem t_X3_howManyAgreed (C0 : Cx p s m args meth c cX3_howManyAgreed (some .int) 3 RX3 wsX3_howManyAgreed A dC dI cyI cyJ cyZ) {qE q_por q_confs q_near q_leads q_agrees q_answers q_hopes q_opens q_most q_ready : Nat} (hXs : X0 A s) {N : Nat} {rCount : Int32} {agrees : Nat → Int32} {rRules : Int32} {r9 : Int32} (hf : f_X3_howManyAgreed N rCount agrees = some r9) (H : Heap) (locs : List Loc) (ls : Array Slot) (hP : va_P (dC, dI) vwCl (w_X3_howManyAgreed cyI cyJ cyZ qE q_por q_confs q_near q_leads q_agrees q_answers q_hopes q_opens q_most q_ready rRules rCount agrees) H) (hD : va_D A (w_X3_howManyAgreed cyI cyJ cyZ qE q_por q_confs q_near q_leads q_agrees q_answers q_hopes q_opens q_most q_ready rRules rCount agrees)) (hS : va_S A s.heap H locs) (hl : lv_has ls 3 [(0, .ref qE)]) : W p l e rm_X3_howManyAgreed s m args below meth c H locs 0 0 (MQ below (Qzi dC dI cyI cyJ cyZ A (w_X3_howManyAgreed cyI cyJ cyZ qE q_por q_confs q_near q_leads q_agrees q_answers q_hopes q_opens q_most q_ready rRules rCount agrees) r9) args s 0 0 A) (F0 m 0 ls []) := by
  have C1 := C0
  obtain ⟨hx, hb, hr, hlocks, hml, hown, hts, hA, hK⟩ := C1
  unfold f_X3_howManyAgreed at hf
  refine lv_iconst (v := 0) hx hb dX3_howManyAgreed_0 (by decide) ?_
  refine lv_istore_n (lv' := [(1, .int 0), (0, .ref qE)]) hx hb dX3_howManyAgreed_1 rfl hl (by decide) rfl (fun ls hl => ?_)
  refine lv_iconst (v := 0) hx hb dX3_howManyAgreed_2 (by decide) ?_
  refine lv_istore_n (lv' := [(2, .int 0), (1, .int 0), (0, .ref qE)]) hx hb dX3_howManyAgreed_3 rfl hl (by decide) rfl (fun ls hl => ?_)
  obtain ⟨x1_7, hlp, hf⟩ := bd1_el hf
  refine l_X3_howManyAgreed_b4 C0 hXs (fun x1_7 q9 H locs ls hP hD hS hl => ?_) N _ _ hlp H locs ls hP hD hS (lv_sub hl [2, 1, 0] rfl)
  cases q9
  refine lv_iload_n hx hb dX3_howManyAgreed_32 rfl (lv_at hl 0 rfl) ?_
  cases hf
  exact W.iret hx hb hr (fun t ht hW => ⟨⟨_, (), rfl, rfl, by rw [ht]; exact hP, va_K.moved hW.alike hK, hD⟩, hS.F ht⟩) hS.2.2 dX3_howManyAgreed_33
set_option maxHeartbeats 4000000 in
set_option maxRecDepth 100000 in
theorem c_X3_howManyAgreed (l : Launch) (dC : Nat → ClassId) (dI : Nat → Nat → Nat) (cyI cyJ cyZ : ClassId) (qE q_por q_confs q_near q_leads q_agrees q_answers q_hopes q_opens q_most q_ready : Nat) (sz N : Nat) (rCount : Int32) (agrees : Nat → Int32) (rRules : Int32) (r9 : Int32) (hf : f_X3_howManyAgreed N rCount agrees = some r9) : Met l yX3_howManyAgreed wsX3_howManyAgreed rm_X3_howManyAgreed (Pz dC dI cyI cyJ cyZ [.ref qE] sz (w_X3_howManyAgreed cyI cyJ cyZ qE q_por q_confs q_near q_leads q_agrees q_answers q_hopes q_opens q_most q_ready rRules rCount agrees) X0) (Qzi dC dI cyI cyJ cyZ (va_A (w_X3_howManyAgreed cyI cyJ cyZ qE q_por q_confs q_near q_leads q_agrees q_answers q_hopes q_opens q_most q_ready rRules rCount agrees) sz) (w_X3_howManyAgreed cyI cyJ cyZ qE q_por q_confs q_near q_leads q_agrees q_answers q_hopes q_opens q_most q_ready rRules rCount agrees) r9) 0 0 (va_A (w_X3_howManyAgreed cyI cyJ cyZ qE q_por q_confs q_near q_leads q_agrees q_answers q_hopes q_opens q_most q_ready rRules rCount agrees) sz) := by
  refine Met_of (cc := cX3_howManyAgreed) (maxL := 3) (ret := (some .int)) (by decide) rfl (Nat.le_of_ble_eq_true rfl) ?_
  intro p e s m args below meth c ls C0 hsz hXs hP hD hS hl
  exact t_X3_howManyAgreed C0 hXs hf s.heap [] ls hP hD hS hl
abbrev w_X3_howManyStable (cyI cyJ cyZ : ClassId) (qE q_por q_confs q_near q_leads q_agrees q_answers q_hopes q_opens q_most q_ready : Nat) (rRules : Int32) (rCount : Int32) (answers : Nat → Int32) : va_W := [(qE, .inr (2, [.ref q_por, .ref q_confs, .ref q_near, .ref q_leads, .ref q_agrees, .ref q_answers, .ref q_hopes, .ref q_opens, .ref q_most, .ref q_ready, .int rRules, .int rCount])), (q_answers, .inl (cyI, 462, .inl answers))]
abbrev rm_X3_howManyStable : Room := { frames := 0, cells := 0, slots := 0, locals := 0 }
theorem hn_X3_howManyStable_X3 : ∀ w ∈ wsX30, w ∈ wsX3_howManyStable := fun _ h => List.mem_cons_of_mem _ (List.mem_append_right _ h)
def f_X3_howManyStable_b4 (N : Nat) (rCount : Int32) (answers : Nat → Int32) (x1 : Int32) (x2 : Int32) : Option ((Int32 × Int32) ⊕ (Int32)) :=
  (if rCount ≤ x2 then some (Sum.inr x1) else gd (inb x2 462) ((if (answers x2.toNatClampNeg) = (-9) then nm (x2 + 1) (fun x2_4 => some (Sum.inl (x1, x2_4))) else nm (x1 + 1) (fun x1_5 => nm (x2 + 1) (fun x2_6 => some (Sum.inl (x1_5, x2_6)))))))
set_option maxHeartbeats 4000000 in
set_option maxRecDepth 100000 in
theorem t_X3_howManyStable_b4 (C0 : Cx p s m args meth c cX3_howManyStable (some .int) 3 RX3 wsX3_howManyStable A dC dI cyI cyJ cyZ) {qE q_por q_confs q_near q_leads q_agrees q_answers q_hopes q_opens q_most q_ready : Nat} (hXs : X0 A s) {N : Nat} {rCount : Int32} {answers : Nat → Int32} {x1 : Int32} {x2 : Int32} {rRules : Int32} {r9 : Int32} {r : (Int32 × Int32) ⊕ (Int32)} (hf : f_X3_howManyStable_b4 N rCount answers x1 x2 = some r) (Kh : ∀ (zx1 : Int32) (zx2 : Int32), r = Sum.inl (zx1, zx2) → ∀ (H : Heap) (locs : List Loc) (ls : Array Slot), va_P (dC, dI) vwCl (w_X3_howManyStable cyI cyJ cyZ qE q_por q_confs q_near q_leads q_agrees q_answers q_hopes q_opens q_most q_ready rRules rCount answers) H → va_D A (w_X3_howManyStable cyI cyJ cyZ qE q_por q_confs q_near q_leads q_agrees q_answers q_hopes q_opens q_most q_ready rRules rCount answers) → va_S A s.heap H locs → lv_has ls 3 [(0, .ref qE), (1, .int zx1), (2, .int zx2)] → W p l e rm_X3_howManyStable s m args below meth c H locs 0 0 (MQ below (Qzi dC dI cyI cyJ cyZ A (w_X3_howManyStable cyI cyJ cyZ qE q_por q_confs q_near q_leads q_agrees q_answers q_hopes q_opens q_most q_ready rRules rCount answers) r9) args s 0 0 A) (F0 m 4 ls [])) (Ke : ∀ (zx1 : Int32), r = Sum.inr zx1 → ∀ (H : Heap) (locs : List Loc) (ls : Array Slot), va_P (dC, dI) vwCl (w_X3_howManyStable cyI cyJ cyZ qE q_por q_confs q_near q_leads q_agrees q_answers q_hopes q_opens q_most q_ready rRules rCount answers) H → va_D A (w_X3_howManyStable cyI cyJ cyZ qE q_por q_confs q_near q_leads q_agrees q_answers q_hopes q_opens q_most q_ready rRules rCount answers) → va_S A s.heap H locs → lv_has ls 3 [(1, .int zx1)] → W p l e rm_X3_howManyStable s m args below meth c H locs 0 0 (MQ below (Qzi dC dI cyI cyJ cyZ A (w_X3_howManyStable cyI cyJ cyZ qE q_por q_confs q_near q_leads q_agrees q_answers q_hopes q_opens q_most q_ready rRules rCount answers) r9) args s 0 0 A) (F0 m 32 ls [])) (H : Heap) (locs : List Loc) (ls : Array Slot) (hP : va_P (dC, dI) vwCl (w_X3_howManyStable cyI cyJ cyZ qE q_por q_confs q_near q_leads q_agrees q_answers q_hopes q_opens q_most q_ready rRules rCount answers) H) (hD : va_D A (w_X3_howManyStable cyI cyJ cyZ qE q_por q_confs q_near q_leads q_agrees q_answers q_hopes q_opens q_most q_ready rRules rCount answers)) (hS : va_S A s.heap H locs) (hl : lv_has ls 3 [(0, .ref qE), (1, .int x1), (2, .int x2)]) : W p l e rm_X3_howManyStable s m args below meth c H locs 0 0 (MQ below (Qzi dC dI cyI cyJ cyZ A (w_X3_howManyStable cyI cyJ cyZ qE q_por q_confs q_near q_leads q_agrees q_answers q_hopes q_opens q_most q_ready rRules rCount answers) r9) args s 0 0 A) (F0 m 4 ls []) := by
  have C1 := C0
  obtain ⟨hx, hb, hr, hlocks, hml, hown, hts, hA, hK⟩ := C1
  unfold f_X3_howManyStable_b4 at hf
  refine lv_iload_n hx hb dX3_howManyStable_4 rfl (lv_at hl 2 rfl) ?_
  refine lv_aload_n hx hb dX3_howManyStable_5 rfl (lv_at hl 0 rfl) ?_
  refine va_get (D := (dC, dI)) (ci := 2) (v := .int rCount) (C := RX3) (T := TX3) (N := 12) hx hb hts hn_X3_howManyStable_X3 hown hK hP 0 rfl rfl 11 (by decide) (hts (.fieldLink RX3 60 "MetAgents$Reach" "count" "I") (List.mem_of_getElem? (i := 1) rfl)) (fun _ h9 => h9) rfl dX3_howManyStable_6 ?_
  refine lv_icmp_ge (tgt := 32) hx hb dX3_howManyStable_9 (by decide) (fun c_1 => ?_) (fun c_1 => ?_)
  · replace hf := it_t hf c_1
    exact Ke _ (Option.some.inj hf).symm H locs ls hP hD hS (lv_sub hl [1] rfl)
  · replace hf := it_f hf c_1
    refine lv_aload_n hx hb dX3_howManyStable_12 rfl (lv_at hl 0 rfl) ?_
    refine va_get (D := (dC, dI)) (ci := 2) (v := .ref q_answers) (C := RX3) (T := TX3) (N := 12) hx hb hts hn_X3_howManyStable_X3 hown hK hP 0 rfl rfl 5 (by decide) (hts (.fieldLink RX3 29 "MetAgents$Reach" "answers" "[I") (List.mem_of_getElem? (i := 2) rfl)) (fun _ h9 => h9) rfl dX3_howManyStable_13 ?_
    refine lv_iload_n hx hb dX3_howManyStable_16 rfl (lv_at hl 2 rfl) ?_
    obtain ⟨h_2, hf⟩ := gd_el hf
    refine va_iald hx hb hK hP 1 0 rfl rfl (inb_in h_2) dX3_howManyStable_17 ?_
    refine lv_bipush (v := (-9)) hx hb dX3_howManyStable_18 (by decide) ?_
    refine lv_icmp_eq (tgt := 26) hx hb dX3_howManyStable_20 (by decide) (fun c_3 => ?_) (fun c_3 => ?_)
    · replace hf := it_t hf c_3
      obtain ⟨x2_4, e_4, hf⟩ := nm_el hf
      refine lv_iinc (v := x2_4) (lv' := [(2, .int x2_4), (0, .ref qE), (1, .int x1)]) hx hb dX3_howManyStable_26 hl (k := 2) rfl (by rw [e_4]; rfl) (by decide) rfl (fun ls hl => ?_)
      refine lv_goto (tgt := 4) hx hb dX3_howManyStable_29 (by decide) ?_
      exact Kh _ _ (Option.some.inj hf).symm H locs ls hP hD hS (lv_sub hl [1, 2, 0] rfl)
    · replace hf := it_f hf c_3
      obtain ⟨x1_5, e_5, hf⟩ := nm_el hf
      refine lv_iinc (v := x1_5) (lv' := [(1, .int x1_5), (0, .ref qE), (2, .int x2)]) hx hb dX3_howManyStable_23 hl (k := 1) rfl (by rw [e_5]; rfl) (by decide) rfl (fun ls hl => ?_)
      obtain ⟨x2_6, e_6, hf⟩ := nm_el hf
      refine lv_iinc (v := x2_6) (lv' := [(2, .int x2_6), (1, .int x1_5), (0, .ref qE)]) hx hb dX3_howManyStable_26 hl (k := 2) rfl (by rw [e_6]; rfl) (by decide) rfl (fun ls hl => ?_)
      refine lv_goto (tgt := 4) hx hb dX3_howManyStable_29 (by decide) ?_
      exact Kh _ _ (Option.some.inj hf).symm H locs ls hP hD hS (lv_sub hl [2, 1, 0] rfl)
set_option maxHeartbeats 4000000 in
set_option maxRecDepth 100000 in
theorem l_X3_howManyStable_b4 (C0 : Cx p s m args meth c cX3_howManyStable (some .int) 3 RX3 wsX3_howManyStable A dC dI cyI cyJ cyZ) {qE q_por q_confs q_near q_leads q_agrees q_answers q_hopes q_opens q_most q_ready : Nat} (hXs : X0 A s) {N : Nat} {rCount : Int32} {answers : Nat → Int32} {rRules : Int32} {r9 : Int32} {z : Int32} (Ke : ∀ (zx1 : Int32), z = zx1 → ∀ (H : Heap) (locs : List Loc) (ls : Array Slot), va_P (dC, dI) vwCl (w_X3_howManyStable cyI cyJ cyZ qE q_por q_confs q_near q_leads q_agrees q_answers q_hopes q_opens q_most q_ready rRules rCount answers) H → va_D A (w_X3_howManyStable cyI cyJ cyZ qE q_por q_confs q_near q_leads q_agrees q_answers q_hopes q_opens q_most q_ready rRules rCount answers) → va_S A s.heap H locs → lv_has ls 3 [(1, .int zx1)] → W p l e rm_X3_howManyStable s m args below meth c H locs 0 0 (MQ below (Qzi dC dI cyI cyJ cyZ A (w_X3_howManyStable cyI cyJ cyZ qE q_por q_confs q_near q_leads q_agrees q_answers q_hopes q_opens q_most q_ready rRules rCount answers) r9) args s 0 0 A) (F0 m 32 ls [])) : ∀ (n9 : Nat) (x1 : Int32) (x2 : Int32), loopN (fun (w9 : Int32 × Int32) => f_X3_howManyStable_b4 N rCount answers w9.1 w9.2) n9 (x1, x2) = some z → ∀ (H : Heap) (locs : List Loc) (ls : Array Slot), va_P (dC, dI) vwCl (w_X3_howManyStable cyI cyJ cyZ qE q_por q_confs q_near q_leads q_agrees q_answers q_hopes q_opens q_most q_ready rRules rCount answers) H → va_D A (w_X3_howManyStable cyI cyJ cyZ qE q_por q_confs q_near q_leads q_agrees q_answers q_hopes q_opens q_most q_ready rRules rCount answers) → va_S A s.heap H locs → lv_has ls 3 [(0, .ref qE), (1, .int x1), (2, .int x2)] → W p l e rm_X3_howManyStable s m args below meth c H locs 0 0 (MQ below (Qzi dC dI cyI cyJ cyZ A (w_X3_howManyStable cyI cyJ cyZ qE q_por q_confs q_near q_leads q_agrees q_answers q_hopes q_opens q_most q_ready rRules rCount answers) r9) args s 0 0 A) (F0 m 4 ls []) := by
  intro n9
  induction n9 with
  | zero => intro _ _ h; cases h
  | succ n9 ih =>
    intro x1 x2 h H locs ls hP hD hS hl
    rcases loopN_el h with ⟨y9, h1, h2⟩ | h1
    · exact t_X3_howManyStable_b4 C0 hXs  h1 (fun zx1 zx2 q9 H locs ls hP hD hS hl => ih zx1 zx2 (by cases q9; exact h2) H locs ls hP hD hS hl) (fun _ q9 => by cases q9) H locs ls hP hD hS hl
    · exact t_X3_howManyStable_b4 C0 hXs  h1 (fun _ _ q9 => by cases q9) (fun ex1 q9 => Ke ex1 (by cases q9; rfl)) H locs ls hP hD hS hl
def f_X3_howManyStable (N : Nat) (rCount : Int32) (answers : Nat → Int32) : Option (Int32) :=
  bd1 (loopN (fun (w9 : Int32 × Int32) => f_X3_howManyStable_b4 N rCount answers w9.1 w9.2) N (0, 0)) (fun x1_7 => some x1_7)
set_option maxHeartbeats 4000000 in
set_option maxRecDepth 100000 in
theorem t_X3_howManyStable (C0 : Cx p s m args meth c cX3_howManyStable (some .int) 3 RX3 wsX3_howManyStable A dC dI cyI cyJ cyZ) {qE q_por q_confs q_near q_leads q_agrees q_answers q_hopes q_opens q_most q_ready : Nat} (hXs : X0 A s) {N : Nat} {rCount : Int32} {answers : Nat → Int32} {rRules : Int32} {r9 : Int32} (hf : f_X3_howManyStable N rCount answers = some r9) (H : Heap) (locs : List Loc) (ls : Array Slot) (hP : va_P (dC, dI) vwCl (w_X3_howManyStable cyI cyJ cyZ qE q_por q_confs q_near q_leads q_agrees q_answers q_hopes q_opens q_most q_ready rRules rCount answers) H) (hD : va_D A (w_X3_howManyStable cyI cyJ cyZ qE q_por q_confs q_near q_leads q_agrees q_answers q_hopes q_opens q_most q_ready rRules rCount answers)) (hS : va_S A s.heap H locs) (hl : lv_has ls 3 [(0, .ref qE)]) : W p l e rm_X3_howManyStable s m args below meth c H locs 0 0 (MQ below (Qzi dC dI cyI cyJ cyZ A (w_X3_howManyStable cyI cyJ cyZ qE q_por q_confs q_near q_leads q_agrees q_answers q_hopes q_opens q_most q_ready rRules rCount answers) r9) args s 0 0 A) (F0 m 0 ls []) := by
  have C1 := C0
  obtain ⟨hx, hb, hr, hlocks, hml, hown, hts, hA, hK⟩ := C1
  unfold f_X3_howManyStable at hf
  refine lv_iconst (v := 0) hx hb dX3_howManyStable_0 (by decide) ?_
  refine lv_istore_n (lv' := [(1, .int 0), (0, .ref qE)]) hx hb dX3_howManyStable_1 rfl hl (by decide) rfl (fun ls hl => ?_)
  refine lv_iconst (v := 0) hx hb dX3_howManyStable_2 (by decide) ?_
  refine lv_istore_n (lv' := [(2, .int 0), (1, .int 0), (0, .ref qE)]) hx hb dX3_howManyStable_3 rfl hl (by decide) rfl (fun ls hl => ?_)
  obtain ⟨x1_7, hlp, hf⟩ := bd1_el hf
  refine l_X3_howManyStable_b4 C0 hXs (fun x1_7 q9 H locs ls hP hD hS hl => ?_) N _ _ hlp H locs ls hP hD hS (lv_sub hl [2, 1, 0] rfl)
  cases q9
  refine lv_iload_n hx hb dX3_howManyStable_32 rfl (lv_at hl 0 rfl) ?_
  cases hf
  exact W.iret hx hb hr (fun t ht hW => ⟨⟨_, (), rfl, rfl, by rw [ht]; exact hP, va_K.moved hW.alike hK, hD⟩, hS.F ht⟩) hS.2.2 dX3_howManyStable_33
set_option maxHeartbeats 4000000 in
set_option maxRecDepth 100000 in
theorem c_X3_howManyStable (l : Launch) (dC : Nat → ClassId) (dI : Nat → Nat → Nat) (cyI cyJ cyZ : ClassId) (qE q_por q_confs q_near q_leads q_agrees q_answers q_hopes q_opens q_most q_ready : Nat) (sz N : Nat) (rCount : Int32) (answers : Nat → Int32) (rRules : Int32) (r9 : Int32) (hf : f_X3_howManyStable N rCount answers = some r9) : Met l yX3_howManyStable wsX3_howManyStable rm_X3_howManyStable (Pz dC dI cyI cyJ cyZ [.ref qE] sz (w_X3_howManyStable cyI cyJ cyZ qE q_por q_confs q_near q_leads q_agrees q_answers q_hopes q_opens q_most q_ready rRules rCount answers) X0) (Qzi dC dI cyI cyJ cyZ (va_A (w_X3_howManyStable cyI cyJ cyZ qE q_por q_confs q_near q_leads q_agrees q_answers q_hopes q_opens q_most q_ready rRules rCount answers) sz) (w_X3_howManyStable cyI cyJ cyZ qE q_por q_confs q_near q_leads q_agrees q_answers q_hopes q_opens q_most q_ready rRules rCount answers) r9) 0 0 (va_A (w_X3_howManyStable cyI cyJ cyZ qE q_por q_confs q_near q_leads q_agrees q_answers q_hopes q_opens q_most q_ready rRules rCount answers) sz) := by
  refine Met_of (cc := cX3_howManyStable) (maxL := 3) (ret := (some .int)) (by decide) rfl (Nat.le_of_ble_eq_true rfl) ?_
  intro p e s m args below meth c ls C0 hsz hXs hP hD hS hl
  exact t_X3_howManyStable C0 hXs hf s.heap [] ls hP hD hS hl
abbrev w_X3_isSilent (cyI cyJ cyZ : ClassId) (qE q_por q_confs q_near q_leads q_agrees q_answers q_hopes q_opens q_most q_ready : Nat) (rRules : Int32) (rCount : Int32) (leads : Nat → Int32) : va_W := [(qE, .inr (2, [.ref q_por, .ref q_confs, .ref q_near, .ref q_leads, .ref q_agrees, .ref q_answers, .ref q_hopes, .ref q_opens, .ref q_most, .ref q_ready, .int rRules, .int rCount])), (q_leads, .inl (cyI, 5544, .inl leads))]
abbrev rm_X3_isSilent : Room := { frames := 1, cells := 0, slots := 0, locals := 22 }
theorem hn_X3_isSilent_X3 : ∀ w ∈ wsX30, w ∈ wsX3_isSilent := fun _ h => List.mem_cons_of_mem _ (List.mem_append_right _ h)
def f_X3_isSilent_b2 (N : Nat) (x1 : Int32) (rRules : Int32) (leads : Nat → Int32) (x2 : Int32) : Option ((Int32) ⊕ ((Int32) ⊕ (Unit))) :=
  (if rRules ≤ x2 then some (Sum.inr (Sum.inr ())) else bd1 (f_X3_leadAt N x1 x2 leads) (fun r_2 => (if r_2 < 0 then nm (x2 + 1) (fun x2_4 => some (Sum.inl x2_4)) else (if r_2 = x1 then nm (x2 + 1) (fun x2_6 => some (Sum.inl x2_6)) else some (Sum.inr (Sum.inl 0))))))
set_option maxHeartbeats 4000000 in
set_option maxRecDepth 100000 in
theorem t_X3_isSilent_b2 (C0 : Cx p s m args meth c cX3_isSilent (some .boolean) 4 RX3 wsX3_isSilent A dC dI cyI cyJ cyZ) {qE q_por q_confs q_near q_leads q_agrees q_answers q_hopes q_opens q_most q_ready : Nat} (hXs : X0 A s) {N : Nat} {x1 : Int32} {rRules : Int32} {leads : Nat → Int32} {x2 : Int32} {rCount : Int32} {r9 : Int32} {r : (Int32) ⊕ ((Int32) ⊕ (Unit))} (hf : f_X3_isSilent_b2 N x1 rRules leads x2 = some r) (Kh : ∀ (zx2 : Int32), r = Sum.inl zx2 → ∀ (H : Heap) (locs : List Loc) (ls : Array Slot), va_P (dC, dI) vwCl (w_X3_isSilent cyI cyJ cyZ qE q_por q_confs q_near q_leads q_agrees q_answers q_hopes q_opens q_most q_ready rRules rCount leads) H → va_D A (w_X3_isSilent cyI cyJ cyZ qE q_por q_confs q_near q_leads q_agrees q_answers q_hopes q_opens q_most q_ready rRules rCount leads) → va_S A s.heap H locs → lv_has ls 4 [(0, .ref qE), (1, .int x1), (2, .int zx2)] → W p l e rm_X3_isSilent s m args below meth c H locs 0 0 (MQ below (Qzi dC dI cyI cyJ cyZ A (w_X3_isSilent cyI cyJ cyZ qE q_por q_confs q_near q_leads q_agrees q_answers q_hopes q_opens q_most q_ready rRules rCount leads) r9) args s 0 0 A) (F0 m 2 ls [])) (Ke : r = Sum.inr (Sum.inr ()) → ∀ (H : Heap) (locs : List Loc) (ls : Array Slot), va_P (dC, dI) vwCl (w_X3_isSilent cyI cyJ cyZ qE q_por q_confs q_near q_leads q_agrees q_answers q_hopes q_opens q_most q_ready rRules rCount leads) H → va_D A (w_X3_isSilent cyI cyJ cyZ qE q_por q_confs q_near q_leads q_agrees q_answers q_hopes q_opens q_most q_ready rRules rCount leads) → va_S A s.heap H locs → lv_has ls 4 [] → W p l e rm_X3_isSilent s m args below meth c H locs 0 0 (MQ below (Qzi dC dI cyI cyJ cyZ A (w_X3_isSilent cyI cyJ cyZ qE q_por q_confs q_near q_leads q_agrees q_answers q_hopes q_opens q_most q_ready rRules rCount leads) r9) args s 0 0 A) (F0 m 34 ls [])) (Kr : ∀ x9 : Int32, r = Sum.inr (Sum.inl x9) → x9 = r9) (H : Heap) (locs : List Loc) (ls : Array Slot) (hP : va_P (dC, dI) vwCl (w_X3_isSilent cyI cyJ cyZ qE q_por q_confs q_near q_leads q_agrees q_answers q_hopes q_opens q_most q_ready rRules rCount leads) H) (hD : va_D A (w_X3_isSilent cyI cyJ cyZ qE q_por q_confs q_near q_leads q_agrees q_answers q_hopes q_opens q_most q_ready rRules rCount leads)) (hS : va_S A s.heap H locs) (hl : lv_has ls 4 [(0, .ref qE), (1, .int x1), (2, .int x2)]) : W p l e rm_X3_isSilent s m args below meth c H locs 0 0 (MQ below (Qzi dC dI cyI cyJ cyZ A (w_X3_isSilent cyI cyJ cyZ qE q_por q_confs q_near q_leads q_agrees q_answers q_hopes q_opens q_most q_ready rRules rCount leads) r9) args s 0 0 A) (F0 m 2 ls []) := by
  have C1 := C0
  obtain ⟨hx, hb, hr, hlocks, hml, hown, hts, hA, hK⟩ := C1
  unfold f_X3_isSilent_b2 at hf
  refine lv_iload_n hx hb dX3_isSilent_2 rfl (lv_at hl 2 rfl) ?_
  refine lv_aload_n hx hb dX3_isSilent_3 rfl (lv_at hl 0 rfl) ?_
  refine va_get (D := (dC, dI)) (ci := 2) (v := .int rRules) (C := RX3) (T := TX3) (N := 12) hx hb hts hn_X3_isSilent_X3 hown hK hP 0 rfl rfl 10 (by decide) (hts (.fieldLink RX3 57 "MetAgents$Reach" "rules" "I") (List.mem_of_getElem? (i := 1) rfl)) (fun _ h9 => h9) rfl dX3_isSilent_4 ?_
  refine lv_icmp_ge (tgt := 34) hx hb dX3_isSilent_7 (by decide) (fun c_1 => ?_) (fun c_1 => ?_)
  · replace hf := it_t hf c_1
    exact Ke  (Option.some.inj hf).symm H locs ls hP hD hS (lv_sub hl [] rfl)
  · replace hf := it_f hf c_1
    refine lv_aload_n hx hb dX3_isSilent_10 rfl (lv_at hl 0 rfl) ?_
    refine lv_iload_n hx hb dX3_isSilent_11 rfl (lv_at hl 1 rfl) ?_
    refine lv_iload_n hx hb dX3_isSilent_12 rfl (lv_at hl 2 rfl) ?_
    obtain ⟨r_2, hc, hf⟩ := bd1_el hf
    refine cl_i (wc := (w_X3_leadAt cyI cyJ cyZ qE q_por q_confs q_near q_leads q_agrees q_answers q_hopes q_opens q_most q_ready rRules rCount leads)) (wr := []) (w1 := (w_X3_leadAt cyI cyJ cyZ qE q_por q_confs q_near q_leads q_agrees q_answers q_hopes q_opens q_most q_ready rRules rCount leads)) (w2 := (w_X3_isSilent cyI cyJ cyZ qE q_por q_confs q_near q_leads q_agrees q_answers q_hopes q_opens q_most q_ready rRules rCount leads)) C0 (rn_V (As := [.int x1, .int x2]) (rest := []) (wc := (w_X3_leadAt cyI cyJ cyZ qE q_por q_confs q_near q_leads q_agrees q_answers q_hopes q_opens q_most q_ready rRules rCount leads)) (X := X0) C0 (c_X3_leadAt l dC dI cyI cyJ cyZ qE q_por q_confs q_near q_leads q_agrees q_answers q_hopes q_opens q_most q_ready H.size N x1 x2 leads rRules rCount r_2 hc) (cwV 2 hts gX3_isSilent_X3_leadAt rfl rfl rfl (by decide +kernel) ⟨Nat.le_of_ble_eq_true rfl, Nat.le_of_ble_eq_true rfl⟩) X0_car trivial hP hD hS [0, 1] rfl rfl 0 2 rfl rfl rfl hl.1 rfl (Nat.le_of_ble_eq_true rfl) dX3_isSilent_13 ⟨Nat.le_of_ble_eq_true rfl, Nat.le_of_ble_eq_true rfl⟩) hP hD hS [0, 1] [] [0, 1] rfl rfl rfl (by decide) rfl rfl (fun H locs hP hD hS => ?_)
    refine lv_istore_n (lv' := [(3, .int r_2), (0, .ref qE), (1, .int x1), (2, .int x2)]) hx hb dX3_isSilent_16 rfl hl (by decide) rfl (fun ls hl => ?_)
    refine lv_iload_n hx hb dX3_isSilent_17 rfl (lv_at hl 0 rfl) ?_
    refine lv_if_lt (tgt := 28) hx hb dX3_isSilent_18 (by decide) (fun c_3 => ?_) (fun c_3 => ?_)
    · replace hf := it_t hf c_3
      obtain ⟨x2_4, e_4, hf⟩ := nm_el hf
      refine lv_iinc (v := x2_4) (lv' := [(2, .int x2_4), (3, .int r_2), (0, .ref qE), (1, .int x1)]) hx hb dX3_isSilent_28 hl (k := 3) rfl (by rw [e_4]; rfl) (by decide) rfl (fun ls hl => ?_)
      refine lv_goto (tgt := 2) hx hb dX3_isSilent_31 (by decide) ?_
      exact Kh _ (Option.some.inj hf).symm H locs ls hP hD hS (lv_sub hl [2, 3, 0] rfl)
    · replace hf := it_f hf c_3
      refine lv_iload_n hx hb dX3_isSilent_21 rfl (lv_at hl 0 rfl) ?_
      refine lv_iload_n hx hb dX3_isSilent_22 rfl (lv_at hl 2 rfl) ?_
      refine lv_icmp_eq (tgt := 28) hx hb dX3_isSilent_23 (by decide) (fun c_5 => ?_) (fun c_5 => ?_)
      · replace hf := it_t hf c_5
        obtain ⟨x2_6, e_6, hf⟩ := nm_el hf
        refine lv_iinc (v := x2_6) (lv' := [(2, .int x2_6), (3, .int r_2), (0, .ref qE), (1, .int x1)]) hx hb dX3_isSilent_28 hl (k := 3) rfl (by rw [e_6]; rfl) (by decide) rfl (fun ls hl => ?_)
        refine lv_goto (tgt := 2) hx hb dX3_isSilent_31 (by decide) ?_
        exact Kh _ (Option.some.inj hf).symm H locs ls hP hD hS (lv_sub hl [2, 3, 0] rfl)
      · replace hf := it_f hf c_5
        refine lv_iconst (v := 0) hx hb dX3_isSilent_26 (by decide) ?_
        cases Kr _ (Option.some.inj hf).symm
        exact W.zret hx hb hr rfl (fun t ht hW => ⟨⟨_, (), rfl, rfl, by rw [ht]; exact hP, va_K.moved hW.alike hK, hD⟩, hS.F ht⟩) hS.2.2 dX3_isSilent_27
set_option maxHeartbeats 4000000 in
set_option maxRecDepth 100000 in
theorem l_X3_isSilent_b2 (C0 : Cx p s m args meth c cX3_isSilent (some .boolean) 4 RX3 wsX3_isSilent A dC dI cyI cyJ cyZ) {qE q_por q_confs q_near q_leads q_agrees q_answers q_hopes q_opens q_most q_ready : Nat} (hXs : X0 A s) {N : Nat} {x1 : Int32} {rRules : Int32} {leads : Nat → Int32} {rCount : Int32} {r9 : Int32} {z : (Int32) ⊕ (Unit)} (Ke : z = Sum.inr () → ∀ (H : Heap) (locs : List Loc) (ls : Array Slot), va_P (dC, dI) vwCl (w_X3_isSilent cyI cyJ cyZ qE q_por q_confs q_near q_leads q_agrees q_answers q_hopes q_opens q_most q_ready rRules rCount leads) H → va_D A (w_X3_isSilent cyI cyJ cyZ qE q_por q_confs q_near q_leads q_agrees q_answers q_hopes q_opens q_most q_ready rRules rCount leads) → va_S A s.heap H locs → lv_has ls 4 [] → W p l e rm_X3_isSilent s m args below meth c H locs 0 0 (MQ below (Qzi dC dI cyI cyJ cyZ A (w_X3_isSilent cyI cyJ cyZ qE q_por q_confs q_near q_leads q_agrees q_answers q_hopes q_opens q_most q_ready rRules rCount leads) r9) args s 0 0 A) (F0 m 34 ls [])) (Kr : ∀ x9 : Int32, z = Sum.inl x9 → x9 = r9) : ∀ (n9 : Nat) (x2 : Int32), loopN (fun (w9 : Int32) => f_X3_isSilent_b2 N x1 rRules leads w9) n9 x2 = some z → ∀ (H : Heap) (locs : List Loc) (ls : Array Slot), va_P (dC, dI) vwCl (w_X3_isSilent cyI cyJ cyZ qE q_por q_confs q_near q_leads q_agrees q_answers q_hopes q_opens q_most q_ready rRules rCount leads) H → va_D A (w_X3_isSilent cyI cyJ cyZ qE q_por q_confs q_near q_leads q_agrees q_answers q_hopes q_opens q_most q_ready rRules rCount leads) → va_S A s.heap H locs → lv_has ls 4 [(0, .ref qE), (1, .int x1), (2, .int x2)] → W p l e rm_X3_isSilent s m args below meth c H locs 0 0 (MQ below (Qzi dC dI cyI cyJ cyZ A (w_X3_isSilent cyI cyJ cyZ qE q_por q_confs q_near q_leads q_agrees q_answers q_hopes q_opens q_most q_ready rRules rCount leads) r9) args s 0 0 A) (F0 m 2 ls []) := by
  intro n9
  induction n9 with
  | zero => intro _ h; cases h
  | succ n9 ih =>
    intro x2 h H locs ls hP hD hS hl
    rcases loopN_el h with ⟨y9, h1, h2⟩ | h1
    · exact t_X3_isSilent_b2 C0 hXs  h1 (fun zx2 q9 H locs ls hP hD hS hl => ih zx2 (by cases q9; exact h2) H locs ls hP hD hS hl) (fun  q9 => by cases q9) (fun _ q9 => by cases q9) H locs ls hP hD hS hl
    · exact t_X3_isSilent_b2 C0 hXs  h1 (fun _ q9 => by cases q9) (fun  q9 => Ke  (by cases q9; rfl)) (fun x9 q9 => Kr x9 (by cases q9; rfl)) H locs ls hP hD hS hl
def f_X3_isSilent (N : Nat) (x1 : Int32) (rRules : Int32) (leads : Nat → Int32) : Option (Int32) :=
  bs0 (loopN (fun (w9 : Int32) => f_X3_isSilent_b2 N x1 rRules leads w9) N 0) (fun x9 => some x9) (some 1)
set_option maxHeartbeats 4000000 in
set_option maxRecDepth 100000 in
theorem t_X3_isSilent (C0 : Cx p s m args meth c cX3_isSilent (some .boolean) 4 RX3 wsX3_isSilent A dC dI cyI cyJ cyZ) {qE q_por q_confs q_near q_leads q_agrees q_answers q_hopes q_opens q_most q_ready : Nat} (hXs : X0 A s) {N : Nat} {x1 : Int32} {rRules : Int32} {leads : Nat → Int32} {rCount : Int32} {r9 : Int32} (hf : f_X3_isSilent N x1 rRules leads = some r9) (H : Heap) (locs : List Loc) (ls : Array Slot) (hP : va_P (dC, dI) vwCl (w_X3_isSilent cyI cyJ cyZ qE q_por q_confs q_near q_leads q_agrees q_answers q_hopes q_opens q_most q_ready rRules rCount leads) H) (hD : va_D A (w_X3_isSilent cyI cyJ cyZ qE q_por q_confs q_near q_leads q_agrees q_answers q_hopes q_opens q_most q_ready rRules rCount leads)) (hS : va_S A s.heap H locs) (hl : lv_has ls 4 [(0, .ref qE), (1, .int x1)]) : W p l e rm_X3_isSilent s m args below meth c H locs 0 0 (MQ below (Qzi dC dI cyI cyJ cyZ A (w_X3_isSilent cyI cyJ cyZ qE q_por q_confs q_near q_leads q_agrees q_answers q_hopes q_opens q_most q_ready rRules rCount leads) r9) args s 0 0 A) (F0 m 0 ls []) := by
  have C1 := C0
  obtain ⟨hx, hb, hr, hlocks, hml, hown, hts, hA, hK⟩ := C1
  unfold f_X3_isSilent at hf
  refine lv_iconst (v := 0) hx hb dX3_isSilent_0 (by decide) ?_
  refine lv_istore_n (lv' := [(2, .int 0), (0, .ref qE), (1, .int x1)]) hx hb dX3_isSilent_1 rfl hl (by decide) rfl (fun ls hl => ?_)
  rcases bs0_el hf with ⟨x9, hlp, hf⟩ | ⟨hlp, hf⟩
  · exact l_X3_isSilent_b2 C0 hXs (fun q9 => by cases q9) (fun x9 q9 => by cases q9; exact Option.some.inj hf) N _ hlp H locs ls hP hD hS (lv_sub hl [1, 2, 0] rfl)
  refine l_X3_isSilent_b2 C0 hXs (fun q9 H locs ls hP hD hS hl => ?_) (fun _ q9 => by cases q9) N _ hlp H locs ls hP hD hS (lv_sub hl [1, 2, 0] rfl)
  cases q9
  refine lv_iconst (v := 1) hx hb dX3_isSilent_34 (by decide) ?_
  cases hf
  exact W.zret hx hb hr rfl (fun t ht hW => ⟨⟨_, (), rfl, rfl, by rw [ht]; exact hP, va_K.moved hW.alike hK, hD⟩, hS.F ht⟩) hS.2.2 dX3_isSilent_35
set_option maxHeartbeats 4000000 in
set_option maxRecDepth 100000 in
theorem c_X3_isSilent (l : Launch) (dC : Nat → ClassId) (dI : Nat → Nat → Nat) (cyI cyJ cyZ : ClassId) (qE q_por q_confs q_near q_leads q_agrees q_answers q_hopes q_opens q_most q_ready : Nat) (sz N : Nat) (x1 : Int32) (rRules : Int32) (leads : Nat → Int32) (rCount : Int32) (r9 : Int32) (hf : f_X3_isSilent N x1 rRules leads = some r9) : Met l yX3_isSilent wsX3_isSilent rm_X3_isSilent (Pz dC dI cyI cyJ cyZ [.ref qE, .int x1] sz (w_X3_isSilent cyI cyJ cyZ qE q_por q_confs q_near q_leads q_agrees q_answers q_hopes q_opens q_most q_ready rRules rCount leads) X0) (Qzi dC dI cyI cyJ cyZ (va_A (w_X3_isSilent cyI cyJ cyZ qE q_por q_confs q_near q_leads q_agrees q_answers q_hopes q_opens q_most q_ready rRules rCount leads) sz) (w_X3_isSilent cyI cyJ cyZ qE q_por q_confs q_near q_leads q_agrees q_answers q_hopes q_opens q_most q_ready rRules rCount leads) r9) 0 0 (va_A (w_X3_isSilent cyI cyJ cyZ qE q_por q_confs q_near q_leads q_agrees q_answers q_hopes q_opens q_most q_ready rRules rCount leads) sz) := by
  refine Met_of (cc := cX3_isSilent) (maxL := 4) (ret := (some .boolean)) (by decide) rfl (Nat.le_of_ble_eq_true rfl) ?_
  intro p e s m args below meth c ls C0 hsz hXs hP hD hS hl
  exact t_X3_isSilent C0 hXs hf s.heap [] ls hP hD hS hl
abbrev w_X3_howManySilent (cyI cyJ cyZ : ClassId) (qE q_por q_confs q_near q_leads q_agrees q_answers q_hopes q_opens q_most q_ready : Nat) (rRules : Int32) (rCount : Int32) (leads : Nat → Int32) : va_W := [(qE, .inr (2, [.ref q_por, .ref q_confs, .ref q_near, .ref q_leads, .ref q_agrees, .ref q_answers, .ref q_hopes, .ref q_opens, .ref q_most, .ref q_ready, .int rRules, .int rCount])), (q_leads, .inl (cyI, 5544, .inl leads))]
abbrev rm_X3_howManySilent : Room := { frames := 2, cells := 0, slots := 0, locals := 45 }
theorem hn_X3_howManySilent_X3 : ∀ w ∈ wsX30, w ∈ wsX3_howManySilent := fun _ h => List.mem_cons_of_mem _ (List.mem_append_right _ h)
def f_X3_howManySilent_b4 (N : Nat) (rRules : Int32) (rCount : Int32) (leads : Nat → Int32) (x1 : Int32) (x2 : Int32) : Option ((Int32 × Int32) ⊕ (Int32)) :=
  (if rCount ≤ x2 then some (Sum.inr x1) else bd1 (f_X3_isSilent N x2 rRules leads) (fun r_2 => (if r_2 = 0 then nm (x2 + 1) (fun x2_4 => some (Sum.inl (x1, x2_4))) else nm (x1 + 1) (fun x1_5 => nm (x2 + 1) (fun x2_6 => some (Sum.inl (x1_5, x2_6)))))))
set_option maxHeartbeats 4000000 in
set_option maxRecDepth 100000 in
theorem t_X3_howManySilent_b4 (C0 : Cx p s m args meth c cX3_howManySilent (some .int) 3 RX3 wsX3_howManySilent A dC dI cyI cyJ cyZ) {qE q_por q_confs q_near q_leads q_agrees q_answers q_hopes q_opens q_most q_ready : Nat} (hXs : X0 A s) {N : Nat} {rRules : Int32} {rCount : Int32} {leads : Nat → Int32} {x1 : Int32} {x2 : Int32} {r9 : Int32} {r : (Int32 × Int32) ⊕ (Int32)} (hf : f_X3_howManySilent_b4 N rRules rCount leads x1 x2 = some r) (Kh : ∀ (zx1 : Int32) (zx2 : Int32), r = Sum.inl (zx1, zx2) → ∀ (H : Heap) (locs : List Loc) (ls : Array Slot), va_P (dC, dI) vwCl (w_X3_howManySilent cyI cyJ cyZ qE q_por q_confs q_near q_leads q_agrees q_answers q_hopes q_opens q_most q_ready rRules rCount leads) H → va_D A (w_X3_howManySilent cyI cyJ cyZ qE q_por q_confs q_near q_leads q_agrees q_answers q_hopes q_opens q_most q_ready rRules rCount leads) → va_S A s.heap H locs → lv_has ls 3 [(0, .ref qE), (1, .int zx1), (2, .int zx2)] → W p l e rm_X3_howManySilent s m args below meth c H locs 0 0 (MQ below (Qzi dC dI cyI cyJ cyZ A (w_X3_howManySilent cyI cyJ cyZ qE q_por q_confs q_near q_leads q_agrees q_answers q_hopes q_opens q_most q_ready rRules rCount leads) r9) args s 0 0 A) (F0 m 4 ls [])) (Ke : ∀ (zx1 : Int32), r = Sum.inr zx1 → ∀ (H : Heap) (locs : List Loc) (ls : Array Slot), va_P (dC, dI) vwCl (w_X3_howManySilent cyI cyJ cyZ qE q_por q_confs q_near q_leads q_agrees q_answers q_hopes q_opens q_most q_ready rRules rCount leads) H → va_D A (w_X3_howManySilent cyI cyJ cyZ qE q_por q_confs q_near q_leads q_agrees q_answers q_hopes q_opens q_most q_ready rRules rCount leads) → va_S A s.heap H locs → lv_has ls 3 [(1, .int zx1)] → W p l e rm_X3_howManySilent s m args below meth c H locs 0 0 (MQ below (Qzi dC dI cyI cyJ cyZ A (w_X3_howManySilent cyI cyJ cyZ qE q_por q_confs q_near q_leads q_agrees q_answers q_hopes q_opens q_most q_ready rRules rCount leads) r9) args s 0 0 A) (F0 m 29 ls [])) (H : Heap) (locs : List Loc) (ls : Array Slot) (hP : va_P (dC, dI) vwCl (w_X3_howManySilent cyI cyJ cyZ qE q_por q_confs q_near q_leads q_agrees q_answers q_hopes q_opens q_most q_ready rRules rCount leads) H) (hD : va_D A (w_X3_howManySilent cyI cyJ cyZ qE q_por q_confs q_near q_leads q_agrees q_answers q_hopes q_opens q_most q_ready rRules rCount leads)) (hS : va_S A s.heap H locs) (hl : lv_has ls 3 [(0, .ref qE), (1, .int x1), (2, .int x2)]) : W p l e rm_X3_howManySilent s m args below meth c H locs 0 0 (MQ below (Qzi dC dI cyI cyJ cyZ A (w_X3_howManySilent cyI cyJ cyZ qE q_por q_confs q_near q_leads q_agrees q_answers q_hopes q_opens q_most q_ready rRules rCount leads) r9) args s 0 0 A) (F0 m 4 ls []) := by
  have C1 := C0
  obtain ⟨hx, hb, hr, hlocks, hml, hown, hts, hA, hK⟩ := C1
  unfold f_X3_howManySilent_b4 at hf
  refine lv_iload_n hx hb dX3_howManySilent_4 rfl (lv_at hl 2 rfl) ?_
  refine lv_aload_n hx hb dX3_howManySilent_5 rfl (lv_at hl 0 rfl) ?_
  refine va_get (D := (dC, dI)) (ci := 2) (v := .int rCount) (C := RX3) (T := TX3) (N := 12) hx hb hts hn_X3_howManySilent_X3 hown hK hP 0 rfl rfl 11 (by decide) (hts (.fieldLink RX3 60 "MetAgents$Reach" "count" "I") (List.mem_of_getElem? (i := 1) rfl)) (fun _ h9 => h9) rfl dX3_howManySilent_6 ?_
  refine lv_icmp_ge (tgt := 29) hx hb dX3_howManySilent_9 (by decide) (fun c_1 => ?_) (fun c_1 => ?_)
  · replace hf := it_t hf c_1
    exact Ke _ (Option.some.inj hf).symm H locs ls hP hD hS (lv_sub hl [1] rfl)
  · replace hf := it_f hf c_1
    refine lv_aload_n hx hb dX3_howManySilent_12 rfl (lv_at hl 0 rfl) ?_
    refine lv_iload_n hx hb dX3_howManySilent_13 rfl (lv_at hl 2 rfl) ?_
    obtain ⟨r_2, hc, hf⟩ := bd1_el hf
    refine cl_i (wc := (w_X3_isSilent cyI cyJ cyZ qE q_por q_confs q_near q_leads q_agrees q_answers q_hopes q_opens q_most q_ready rRules rCount leads)) (wr := []) (w1 := (w_X3_isSilent cyI cyJ cyZ qE q_por q_confs q_near q_leads q_agrees q_answers q_hopes q_opens q_most q_ready rRules rCount leads)) (w2 := (w_X3_howManySilent cyI cyJ cyZ qE q_por q_confs q_near q_leads q_agrees q_answers q_hopes q_opens q_most q_ready rRules rCount leads)) C0 (rn_V (As := [.int x2]) (rest := []) (wc := (w_X3_isSilent cyI cyJ cyZ qE q_por q_confs q_near q_leads q_agrees q_answers q_hopes q_opens q_most q_ready rRules rCount leads)) (X := X0) C0 (c_X3_isSilent l dC dI cyI cyJ cyZ qE q_por q_confs q_near q_leads q_agrees q_answers q_hopes q_opens q_most q_ready H.size N x2 rRules leads rCount r_2 hc) (cwV 1 hts gX3_howManySilent_X3_isSilent rfl rfl rfl (by decide +kernel) ⟨Nat.le_of_ble_eq_true rfl, Nat.le_of_ble_eq_true rfl⟩) X0_car trivial hP hD hS [0, 1] rfl rfl 0 2 rfl rfl rfl hl.1 rfl (Nat.le_of_ble_eq_true rfl) dX3_howManySilent_14 ⟨Nat.le_of_ble_eq_true rfl, Nat.le_of_ble_eq_true rfl⟩) hP hD hS [0, 1] [] [0, 1] rfl rfl rfl (by decide) rfl rfl (fun H locs hP hD hS => ?_)
    refine lv_if_eq (tgt := 23) hx hb dX3_howManySilent_17 (by decide) (fun c_3 => ?_) (fun c_3 => ?_)
    · replace hf := it_t hf c_3
      obtain ⟨x2_4, e_4, hf⟩ := nm_el hf
      refine lv_iinc (v := x2_4) (lv' := [(2, .int x2_4), (0, .ref qE), (1, .int x1)]) hx hb dX3_howManySilent_23 hl (k := 2) rfl (by rw [e_4]; rfl) (by decide) rfl (fun ls hl => ?_)
      refine lv_goto (tgt := 4) hx hb dX3_howManySilent_26 (by decide) ?_
      exact Kh _ _ (Option.some.inj hf).symm H locs ls hP hD hS (lv_sub hl [1, 2, 0] rfl)
    · replace hf := it_f hf c_3
      obtain ⟨x1_5, e_5, hf⟩ := nm_el hf
      refine lv_iinc (v := x1_5) (lv' := [(1, .int x1_5), (0, .ref qE), (2, .int x2)]) hx hb dX3_howManySilent_20 hl (k := 1) rfl (by rw [e_5]; rfl) (by decide) rfl (fun ls hl => ?_)
      obtain ⟨x2_6, e_6, hf⟩ := nm_el hf
      refine lv_iinc (v := x2_6) (lv' := [(2, .int x2_6), (1, .int x1_5), (0, .ref qE)]) hx hb dX3_howManySilent_23 hl (k := 2) rfl (by rw [e_6]; rfl) (by decide) rfl (fun ls hl => ?_)
      refine lv_goto (tgt := 4) hx hb dX3_howManySilent_26 (by decide) ?_
      exact Kh _ _ (Option.some.inj hf).symm H locs ls hP hD hS (lv_sub hl [2, 1, 0] rfl)
set_option maxHeartbeats 4000000 in
set_option maxRecDepth 100000 in
theorem l_X3_howManySilent_b4 (C0 : Cx p s m args meth c cX3_howManySilent (some .int) 3 RX3 wsX3_howManySilent A dC dI cyI cyJ cyZ) {qE q_por q_confs q_near q_leads q_agrees q_answers q_hopes q_opens q_most q_ready : Nat} (hXs : X0 A s) {N : Nat} {rRules : Int32} {rCount : Int32} {leads : Nat → Int32} {r9 : Int32} {z : Int32} (Ke : ∀ (zx1 : Int32), z = zx1 → ∀ (H : Heap) (locs : List Loc) (ls : Array Slot), va_P (dC, dI) vwCl (w_X3_howManySilent cyI cyJ cyZ qE q_por q_confs q_near q_leads q_agrees q_answers q_hopes q_opens q_most q_ready rRules rCount leads) H → va_D A (w_X3_howManySilent cyI cyJ cyZ qE q_por q_confs q_near q_leads q_agrees q_answers q_hopes q_opens q_most q_ready rRules rCount leads) → va_S A s.heap H locs → lv_has ls 3 [(1, .int zx1)] → W p l e rm_X3_howManySilent s m args below meth c H locs 0 0 (MQ below (Qzi dC dI cyI cyJ cyZ A (w_X3_howManySilent cyI cyJ cyZ qE q_por q_confs q_near q_leads q_agrees q_answers q_hopes q_opens q_most q_ready rRules rCount leads) r9) args s 0 0 A) (F0 m 29 ls [])) : ∀ (n9 : Nat) (x1 : Int32) (x2 : Int32), loopN (fun (w9 : Int32 × Int32) => f_X3_howManySilent_b4 N rRules rCount leads w9.1 w9.2) n9 (x1, x2) = some z → ∀ (H : Heap) (locs : List Loc) (ls : Array Slot), va_P (dC, dI) vwCl (w_X3_howManySilent cyI cyJ cyZ qE q_por q_confs q_near q_leads q_agrees q_answers q_hopes q_opens q_most q_ready rRules rCount leads) H → va_D A (w_X3_howManySilent cyI cyJ cyZ qE q_por q_confs q_near q_leads q_agrees q_answers q_hopes q_opens q_most q_ready rRules rCount leads) → va_S A s.heap H locs → lv_has ls 3 [(0, .ref qE), (1, .int x1), (2, .int x2)] → W p l e rm_X3_howManySilent s m args below meth c H locs 0 0 (MQ below (Qzi dC dI cyI cyJ cyZ A (w_X3_howManySilent cyI cyJ cyZ qE q_por q_confs q_near q_leads q_agrees q_answers q_hopes q_opens q_most q_ready rRules rCount leads) r9) args s 0 0 A) (F0 m 4 ls []) := by
  intro n9
  induction n9 with
  | zero => intro _ _ h; cases h
  | succ n9 ih =>
    intro x1 x2 h H locs ls hP hD hS hl
    rcases loopN_el h with ⟨y9, h1, h2⟩ | h1
    · exact t_X3_howManySilent_b4 C0 hXs  h1 (fun zx1 zx2 q9 H locs ls hP hD hS hl => ih zx1 zx2 (by cases q9; exact h2) H locs ls hP hD hS hl) (fun _ q9 => by cases q9) H locs ls hP hD hS hl
    · exact t_X3_howManySilent_b4 C0 hXs  h1 (fun _ _ q9 => by cases q9) (fun ex1 q9 => Ke ex1 (by cases q9; rfl)) H locs ls hP hD hS hl
def f_X3_howManySilent (N : Nat) (rRules : Int32) (rCount : Int32) (leads : Nat → Int32) : Option (Int32) :=
  bd1 (loopN (fun (w9 : Int32 × Int32) => f_X3_howManySilent_b4 N rRules rCount leads w9.1 w9.2) N (0, 0)) (fun x1_7 => some x1_7)
set_option maxHeartbeats 4000000 in
set_option maxRecDepth 100000 in
theorem t_X3_howManySilent (C0 : Cx p s m args meth c cX3_howManySilent (some .int) 3 RX3 wsX3_howManySilent A dC dI cyI cyJ cyZ) {qE q_por q_confs q_near q_leads q_agrees q_answers q_hopes q_opens q_most q_ready : Nat} (hXs : X0 A s) {N : Nat} {rRules : Int32} {rCount : Int32} {leads : Nat → Int32} {r9 : Int32} (hf : f_X3_howManySilent N rRules rCount leads = some r9) (H : Heap) (locs : List Loc) (ls : Array Slot) (hP : va_P (dC, dI) vwCl (w_X3_howManySilent cyI cyJ cyZ qE q_por q_confs q_near q_leads q_agrees q_answers q_hopes q_opens q_most q_ready rRules rCount leads) H) (hD : va_D A (w_X3_howManySilent cyI cyJ cyZ qE q_por q_confs q_near q_leads q_agrees q_answers q_hopes q_opens q_most q_ready rRules rCount leads)) (hS : va_S A s.heap H locs) (hl : lv_has ls 3 [(0, .ref qE)]) : W p l e rm_X3_howManySilent s m args below meth c H locs 0 0 (MQ below (Qzi dC dI cyI cyJ cyZ A (w_X3_howManySilent cyI cyJ cyZ qE q_por q_confs q_near q_leads q_agrees q_answers q_hopes q_opens q_most q_ready rRules rCount leads) r9) args s 0 0 A) (F0 m 0 ls []) := by
  have C1 := C0
  obtain ⟨hx, hb, hr, hlocks, hml, hown, hts, hA, hK⟩ := C1
  unfold f_X3_howManySilent at hf
  refine lv_iconst (v := 0) hx hb dX3_howManySilent_0 (by decide) ?_
  refine lv_istore_n (lv' := [(1, .int 0), (0, .ref qE)]) hx hb dX3_howManySilent_1 rfl hl (by decide) rfl (fun ls hl => ?_)
  refine lv_iconst (v := 0) hx hb dX3_howManySilent_2 (by decide) ?_
  refine lv_istore_n (lv' := [(2, .int 0), (1, .int 0), (0, .ref qE)]) hx hb dX3_howManySilent_3 rfl hl (by decide) rfl (fun ls hl => ?_)
  obtain ⟨x1_7, hlp, hf⟩ := bd1_el hf
  refine l_X3_howManySilent_b4 C0 hXs (fun x1_7 q9 H locs ls hP hD hS hl => ?_) N _ _ hlp H locs ls hP hD hS (lv_sub hl [2, 1, 0] rfl)
  cases q9
  refine lv_iload_n hx hb dX3_howManySilent_29 rfl (lv_at hl 0 rfl) ?_
  cases hf
  exact W.iret hx hb hr (fun t ht hW => ⟨⟨_, (), rfl, rfl, by rw [ht]; exact hP, va_K.moved hW.alike hK, hD⟩, hS.F ht⟩) hS.2.2 dX3_howManySilent_30
set_option maxHeartbeats 4000000 in
set_option maxRecDepth 100000 in
theorem c_X3_howManySilent (l : Launch) (dC : Nat → ClassId) (dI : Nat → Nat → Nat) (cyI cyJ cyZ : ClassId) (qE q_por q_confs q_near q_leads q_agrees q_answers q_hopes q_opens q_most q_ready : Nat) (sz N : Nat) (rRules : Int32) (rCount : Int32) (leads : Nat → Int32) (r9 : Int32) (hf : f_X3_howManySilent N rRules rCount leads = some r9) : Met l yX3_howManySilent wsX3_howManySilent rm_X3_howManySilent (Pz dC dI cyI cyJ cyZ [.ref qE] sz (w_X3_howManySilent cyI cyJ cyZ qE q_por q_confs q_near q_leads q_agrees q_answers q_hopes q_opens q_most q_ready rRules rCount leads) X0) (Qzi dC dI cyI cyJ cyZ (va_A (w_X3_howManySilent cyI cyJ cyZ qE q_por q_confs q_near q_leads q_agrees q_answers q_hopes q_opens q_most q_ready rRules rCount leads) sz) (w_X3_howManySilent cyI cyJ cyZ qE q_por q_confs q_near q_leads q_agrees q_answers q_hopes q_opens q_most q_ready rRules rCount leads) r9) 0 0 (va_A (w_X3_howManySilent cyI cyJ cyZ qE q_por q_confs q_near q_leads q_agrees q_answers q_hopes q_opens q_most q_ready rRules rCount leads) sz) := by
  refine Met_of (cc := cX3_howManySilent) (maxL := 3) (ret := (some .int)) (by decide) rfl (Nat.le_of_ble_eq_true rfl) ?_
  intro p e s m args below meth c ls C0 hsz hXs hP hD hS hl
  exact t_X3_howManySilent C0 hXs hf s.heap [] ls hP hD hS hl
abbrev w_X3_onlyAnswer (cyI cyJ cyZ : ClassId) (qE q_por q_confs q_near q_leads q_agrees q_answers q_hopes q_opens q_most q_ready : Nat) (rRules : Int32) (rCount : Int32) (answers : Nat → Int32) : va_W := [(qE, .inr (2, [.ref q_por, .ref q_confs, .ref q_near, .ref q_leads, .ref q_agrees, .ref q_answers, .ref q_hopes, .ref q_opens, .ref q_most, .ref q_ready, .int rRules, .int rCount])), (q_answers, .inl (cyI, 462, .inl answers))]
abbrev rm_X3_onlyAnswer : Room := { frames := 0, cells := 0, slots := 0, locals := 0 }
theorem hn_X3_onlyAnswer_X3 : ∀ w ∈ wsX30, w ∈ wsX3_onlyAnswer := fun _ h => List.mem_cons_of_mem _ (List.mem_append_right _ h)
def f_X3_onlyAnswer_j43 (N : Nat) (x2 : Int32) (rCount : Int32) (answers : Nat → Int32) : Option ((Int32 × Int32) ⊕ ((Int32) ⊕ (Int32))) :=
  gd (inb x2 462) (nm (answers x2.toNatClampNeg) (fun x1_7 => nm (x2 + 1) (fun x2_8 => some (Sum.inl (x1_7, x2_8)))))
set_option maxHeartbeats 4000000 in
set_option maxRecDepth 100000 in
theorem t_X3_onlyAnswer_j43 (C0 : Cx p s m args meth c cX3_onlyAnswer (some .int) 3 RX3 wsX3_onlyAnswer A dC dI cyI cyJ cyZ) {qE q_por q_confs q_near q_leads q_agrees q_answers q_hopes q_opens q_most q_ready : Nat} (hXs : X0 A s) {N : Nat} {x2 : Int32} {rCount : Int32} {answers : Nat → Int32} {rRules : Int32} {r9 : Int32} {r : (Int32 × Int32) ⊕ ((Int32) ⊕ (Int32))} (hf : f_X3_onlyAnswer_j43 N x2 rCount answers = some r) (Kh : ∀ (zx1 : Int32) (zx2 : Int32), r = Sum.inl (zx1, zx2) → ∀ (H : Heap) (locs : List Loc) (ls : Array Slot), va_P (dC, dI) vwCl (w_X3_onlyAnswer cyI cyJ cyZ qE q_por q_confs q_near q_leads q_agrees q_answers q_hopes q_opens q_most q_ready rRules rCount answers) H → va_D A (w_X3_onlyAnswer cyI cyJ cyZ qE q_por q_confs q_near q_leads q_agrees q_answers q_hopes q_opens q_most q_ready rRules rCount answers) → va_S A s.heap H locs → lv_has ls 3 [(0, .ref qE), (1, .int zx1), (2, .int zx2)] → W p l e rm_X3_onlyAnswer s m args below meth c H locs 0 0 (MQ below (Qzi dC dI cyI cyJ cyZ A (w_X3_onlyAnswer cyI cyJ cyZ qE q_por q_confs q_near q_leads q_agrees q_answers q_hopes q_opens q_most q_ready rRules rCount answers) r9) args s 0 0 A) (F0 m 5 ls [])) (Ke : ∀ (zx1 : Int32), r = Sum.inr (Sum.inr zx1) → ∀ (H : Heap) (locs : List Loc) (ls : Array Slot), va_P (dC, dI) vwCl (w_X3_onlyAnswer cyI cyJ cyZ qE q_por q_confs q_near q_leads q_agrees q_answers q_hopes q_opens q_most q_ready rRules rCount answers) H → va_D A (w_X3_onlyAnswer cyI cyJ cyZ qE q_por q_confs q_near q_leads q_agrees q_answers q_hopes q_opens q_most q_ready rRules rCount answers) → va_S A s.heap H locs → lv_has ls 3 [(1, .int zx1)] → W p l e rm_X3_onlyAnswer s m args below meth c H locs 0 0 (MQ below (Qzi dC dI cyI cyJ cyZ A (w_X3_onlyAnswer cyI cyJ cyZ qE q_por q_confs q_near q_leads q_agrees q_answers q_hopes q_opens q_most q_ready rRules rCount answers) r9) args s 0 0 A) (F0 m 56 ls [])) (Kr : ∀ x9 : Int32, r = Sum.inr (Sum.inl x9) → x9 = r9) (H : Heap) (locs : List Loc) (ls : Array Slot) (hP : va_P (dC, dI) vwCl (w_X3_onlyAnswer cyI cyJ cyZ qE q_por q_confs q_near q_leads q_agrees q_answers q_hopes q_opens q_most q_ready rRules rCount answers) H) (hD : va_D A (w_X3_onlyAnswer cyI cyJ cyZ qE q_por q_confs q_near q_leads q_agrees q_answers q_hopes q_opens q_most q_ready rRules rCount answers)) (hS : va_S A s.heap H locs) (hl : lv_has ls 3 [(0, .ref qE), (2, .int x2)]) : W p l e rm_X3_onlyAnswer s m args below meth c H locs 0 0 (MQ below (Qzi dC dI cyI cyJ cyZ A (w_X3_onlyAnswer cyI cyJ cyZ qE q_por q_confs q_near q_leads q_agrees q_answers q_hopes q_opens q_most q_ready rRules rCount answers) r9) args s 0 0 A) (F0 m 43 ls []) := by
  have C1 := C0
  obtain ⟨hx, hb, hr, hlocks, hml, hown, hts, hA, hK⟩ := C1
  unfold f_X3_onlyAnswer_j43 at hf
  refine lv_aload_n hx hb dX3_onlyAnswer_43 rfl (lv_at hl 0 rfl) ?_
  refine va_get (D := (dC, dI)) (ci := 2) (v := .ref q_answers) (C := RX3) (T := TX3) (N := 12) hx hb hts hn_X3_onlyAnswer_X3 hown hK hP 0 rfl rfl 5 (by decide) (hts (.fieldLink RX3 29 "MetAgents$Reach" "answers" "[I") (List.mem_of_getElem? (i := 2) rfl)) (fun _ h9 => h9) rfl dX3_onlyAnswer_44 ?_
  refine lv_iload_n hx hb dX3_onlyAnswer_47 rfl (lv_at hl 1 rfl) ?_
  obtain ⟨h_6, hf⟩ := gd_el hf
  refine va_iald hx hb hK hP 1 0 rfl rfl (inb_in h_6) dX3_onlyAnswer_48 ?_
  obtain ⟨x1_7, e_7, hf⟩ := nm_el hf
  refine top_i e_7 ?_
  refine lv_istore_n (lv' := [(1, .int x1_7), (0, .ref qE), (2, .int x2)]) hx hb dX3_onlyAnswer_49 rfl hl (by decide) rfl (fun ls hl => ?_)
  obtain ⟨x2_8, e_8, hf⟩ := nm_el hf
  refine lv_iinc (v := x2_8) (lv' := [(2, .int x2_8), (1, .int x1_7), (0, .ref qE)]) hx hb dX3_onlyAnswer_50 hl (k := 2) rfl (by rw [e_8]; rfl) (by decide) rfl (fun ls hl => ?_)
  refine lv_goto (tgt := 5) hx hb dX3_onlyAnswer_53 (by decide) ?_
  exact Kh _ _ (Option.some.inj hf).symm H locs ls hP hD hS (lv_sub hl [2, 1, 0] rfl)
def f_X3_onlyAnswer_b5 (N : Nat) (rCount : Int32) (answers : Nat → Int32) (x1 : Int32) (x2 : Int32) : Option ((Int32 × Int32) ⊕ ((Int32) ⊕ (Int32))) :=
  (if rCount ≤ x2 then some (Sum.inr (Sum.inr x1)) else gd (inb x2 462) ((if (answers x2.toNatClampNeg) = (-9) then nm (x2 + 1) (fun x2_4 => some (Sum.inl (x1, x2_4))) else (if x1 = (-9) then f_X3_onlyAnswer_j43 N x2 rCount answers else gd (inb x2 462) ((if x1 = (answers x2.toNatClampNeg) then f_X3_onlyAnswer_j43 N x2 rCount answers else some (Sum.inr (Sum.inl ((-9))))))))))
set_option maxHeartbeats 4000000 in
set_option maxRecDepth 100000 in
theorem t_X3_onlyAnswer_b5 (C0 : Cx p s m args meth c cX3_onlyAnswer (some .int) 3 RX3 wsX3_onlyAnswer A dC dI cyI cyJ cyZ) {qE q_por q_confs q_near q_leads q_agrees q_answers q_hopes q_opens q_most q_ready : Nat} (hXs : X0 A s) {N : Nat} {rCount : Int32} {answers : Nat → Int32} {x1 : Int32} {x2 : Int32} {rRules : Int32} {r9 : Int32} {r : (Int32 × Int32) ⊕ ((Int32) ⊕ (Int32))} (hf : f_X3_onlyAnswer_b5 N rCount answers x1 x2 = some r) (Kh : ∀ (zx1 : Int32) (zx2 : Int32), r = Sum.inl (zx1, zx2) → ∀ (H : Heap) (locs : List Loc) (ls : Array Slot), va_P (dC, dI) vwCl (w_X3_onlyAnswer cyI cyJ cyZ qE q_por q_confs q_near q_leads q_agrees q_answers q_hopes q_opens q_most q_ready rRules rCount answers) H → va_D A (w_X3_onlyAnswer cyI cyJ cyZ qE q_por q_confs q_near q_leads q_agrees q_answers q_hopes q_opens q_most q_ready rRules rCount answers) → va_S A s.heap H locs → lv_has ls 3 [(0, .ref qE), (1, .int zx1), (2, .int zx2)] → W p l e rm_X3_onlyAnswer s m args below meth c H locs 0 0 (MQ below (Qzi dC dI cyI cyJ cyZ A (w_X3_onlyAnswer cyI cyJ cyZ qE q_por q_confs q_near q_leads q_agrees q_answers q_hopes q_opens q_most q_ready rRules rCount answers) r9) args s 0 0 A) (F0 m 5 ls [])) (Ke : ∀ (zx1 : Int32), r = Sum.inr (Sum.inr zx1) → ∀ (H : Heap) (locs : List Loc) (ls : Array Slot), va_P (dC, dI) vwCl (w_X3_onlyAnswer cyI cyJ cyZ qE q_por q_confs q_near q_leads q_agrees q_answers q_hopes q_opens q_most q_ready rRules rCount answers) H → va_D A (w_X3_onlyAnswer cyI cyJ cyZ qE q_por q_confs q_near q_leads q_agrees q_answers q_hopes q_opens q_most q_ready rRules rCount answers) → va_S A s.heap H locs → lv_has ls 3 [(1, .int zx1)] → W p l e rm_X3_onlyAnswer s m args below meth c H locs 0 0 (MQ below (Qzi dC dI cyI cyJ cyZ A (w_X3_onlyAnswer cyI cyJ cyZ qE q_por q_confs q_near q_leads q_agrees q_answers q_hopes q_opens q_most q_ready rRules rCount answers) r9) args s 0 0 A) (F0 m 56 ls [])) (Kr : ∀ x9 : Int32, r = Sum.inr (Sum.inl x9) → x9 = r9) (H : Heap) (locs : List Loc) (ls : Array Slot) (hP : va_P (dC, dI) vwCl (w_X3_onlyAnswer cyI cyJ cyZ qE q_por q_confs q_near q_leads q_agrees q_answers q_hopes q_opens q_most q_ready rRules rCount answers) H) (hD : va_D A (w_X3_onlyAnswer cyI cyJ cyZ qE q_por q_confs q_near q_leads q_agrees q_answers q_hopes q_opens q_most q_ready rRules rCount answers)) (hS : va_S A s.heap H locs) (hl : lv_has ls 3 [(0, .ref qE), (1, .int x1), (2, .int x2)]) : W p l e rm_X3_onlyAnswer s m args below meth c H locs 0 0 (MQ below (Qzi dC dI cyI cyJ cyZ A (w_X3_onlyAnswer cyI cyJ cyZ qE q_por q_confs q_near q_leads q_agrees q_answers q_hopes q_opens q_most q_ready rRules rCount answers) r9) args s 0 0 A) (F0 m 5 ls []) := by
  have C1 := C0
  obtain ⟨hx, hb, hr, hlocks, hml, hown, hts, hA, hK⟩ := C1
  unfold f_X3_onlyAnswer_b5 at hf
  refine lv_iload_n hx hb dX3_onlyAnswer_5 rfl (lv_at hl 2 rfl) ?_
  refine lv_aload_n hx hb dX3_onlyAnswer_6 rfl (lv_at hl 0 rfl) ?_
  refine va_get (D := (dC, dI)) (ci := 2) (v := .int rCount) (C := RX3) (T := TX3) (N := 12) hx hb hts hn_X3_onlyAnswer_X3 hown hK hP 0 rfl rfl 11 (by decide) (hts (.fieldLink RX3 60 "MetAgents$Reach" "count" "I") (List.mem_of_getElem? (i := 1) rfl)) (fun _ h9 => h9) rfl dX3_onlyAnswer_7 ?_
  refine lv_icmp_ge (tgt := 56) hx hb dX3_onlyAnswer_10 (by decide) (fun c_1 => ?_) (fun c_1 => ?_)
  · replace hf := it_t hf c_1
    exact Ke _ (Option.some.inj hf).symm H locs ls hP hD hS (lv_sub hl [1] rfl)
  · replace hf := it_f hf c_1
    refine lv_aload_n hx hb dX3_onlyAnswer_13 rfl (lv_at hl 0 rfl) ?_
    refine va_get (D := (dC, dI)) (ci := 2) (v := .ref q_answers) (C := RX3) (T := TX3) (N := 12) hx hb hts hn_X3_onlyAnswer_X3 hown hK hP 0 rfl rfl 5 (by decide) (hts (.fieldLink RX3 29 "MetAgents$Reach" "answers" "[I") (List.mem_of_getElem? (i := 2) rfl)) (fun _ h9 => h9) rfl dX3_onlyAnswer_14 ?_
    refine lv_iload_n hx hb dX3_onlyAnswer_17 rfl (lv_at hl 2 rfl) ?_
    obtain ⟨h_2, hf⟩ := gd_el hf
    refine va_iald hx hb hK hP 1 0 rfl rfl (inb_in h_2) dX3_onlyAnswer_18 ?_
    refine lv_bipush (v := (-9)) hx hb dX3_onlyAnswer_19 (by decide) ?_
    refine lv_icmp_eq (tgt := 50) hx hb dX3_onlyAnswer_21 (by decide) (fun c_3 => ?_) (fun c_3 => ?_)
    · replace hf := it_t hf c_3
      obtain ⟨x2_4, e_4, hf⟩ := nm_el hf
      refine lv_iinc (v := x2_4) (lv' := [(2, .int x2_4), (0, .ref qE), (1, .int x1)]) hx hb dX3_onlyAnswer_50 hl (k := 2) rfl (by rw [e_4]; rfl) (by decide) rfl (fun ls hl => ?_)
      refine lv_goto (tgt := 5) hx hb dX3_onlyAnswer_53 (by decide) ?_
      exact Kh _ _ (Option.some.inj hf).symm H locs ls hP hD hS (lv_sub hl [1, 2, 0] rfl)
    · replace hf := it_f hf c_3
      refine lv_iload_n hx hb dX3_onlyAnswer_24 rfl (lv_at hl 1 rfl) ?_
      refine lv_bipush (v := (-9)) hx hb dX3_onlyAnswer_25 (by decide) ?_
      refine lv_icmp_eq (tgt := 43) hx hb dX3_onlyAnswer_27 (by decide) (fun c_5 => ?_) (fun c_5 => ?_)
      · replace hf := it_t hf c_5
        exact t_X3_onlyAnswer_j43 C0 hXs hf Kh Ke Kr H locs ls hP hD hS (lv_sub hl [0, 2] rfl)
      · replace hf := it_f hf c_5
        refine lv_iload_n hx hb dX3_onlyAnswer_30 rfl (lv_at hl 1 rfl) ?_
        refine lv_aload_n hx hb dX3_onlyAnswer_31 rfl (lv_at hl 0 rfl) ?_
        refine va_get (D := (dC, dI)) (ci := 2) (v := .ref q_answers) (C := RX3) (T := TX3) (N := 12) hx hb hts hn_X3_onlyAnswer_X3 hown hK hP 0 rfl rfl 5 (by decide) (hts (.fieldLink RX3 29 "MetAgents$Reach" "answers" "[I") (List.mem_of_getElem? (i := 2) rfl)) (fun _ h9 => h9) rfl dX3_onlyAnswer_32 ?_
        refine lv_iload_n hx hb dX3_onlyAnswer_35 rfl (lv_at hl 2 rfl) ?_
        obtain ⟨h_9, hf⟩ := gd_el hf
        refine va_iald hx hb hK hP 1 0 rfl rfl (inb_in h_9) dX3_onlyAnswer_36 ?_
        refine lv_icmp_eq (tgt := 43) hx hb dX3_onlyAnswer_37 (by decide) (fun c_10 => ?_) (fun c_10 => ?_)
        · replace hf := it_t hf c_10
          exact t_X3_onlyAnswer_j43 C0 hXs hf Kh Ke Kr H locs ls hP hD hS (lv_sub hl [0, 2] rfl)
        · replace hf := it_f hf c_10
          refine lv_bipush (v := (-9)) hx hb dX3_onlyAnswer_40 (by decide) ?_
          cases Kr _ (Option.some.inj hf).symm
          exact W.iret hx hb hr (fun t ht hW => ⟨⟨_, (), rfl, rfl, by rw [ht]; exact hP, va_K.moved hW.alike hK, hD⟩, hS.F ht⟩) hS.2.2 dX3_onlyAnswer_42
set_option maxHeartbeats 4000000 in
set_option maxRecDepth 100000 in
theorem l_X3_onlyAnswer_b5 (C0 : Cx p s m args meth c cX3_onlyAnswer (some .int) 3 RX3 wsX3_onlyAnswer A dC dI cyI cyJ cyZ) {qE q_por q_confs q_near q_leads q_agrees q_answers q_hopes q_opens q_most q_ready : Nat} (hXs : X0 A s) {N : Nat} {rCount : Int32} {answers : Nat → Int32} {rRules : Int32} {r9 : Int32} {z : (Int32) ⊕ (Int32)} (Ke : ∀ (zx1 : Int32), z = Sum.inr zx1 → ∀ (H : Heap) (locs : List Loc) (ls : Array Slot), va_P (dC, dI) vwCl (w_X3_onlyAnswer cyI cyJ cyZ qE q_por q_confs q_near q_leads q_agrees q_answers q_hopes q_opens q_most q_ready rRules rCount answers) H → va_D A (w_X3_onlyAnswer cyI cyJ cyZ qE q_por q_confs q_near q_leads q_agrees q_answers q_hopes q_opens q_most q_ready rRules rCount answers) → va_S A s.heap H locs → lv_has ls 3 [(1, .int zx1)] → W p l e rm_X3_onlyAnswer s m args below meth c H locs 0 0 (MQ below (Qzi dC dI cyI cyJ cyZ A (w_X3_onlyAnswer cyI cyJ cyZ qE q_por q_confs q_near q_leads q_agrees q_answers q_hopes q_opens q_most q_ready rRules rCount answers) r9) args s 0 0 A) (F0 m 56 ls [])) (Kr : ∀ x9 : Int32, z = Sum.inl x9 → x9 = r9) : ∀ (n9 : Nat) (x1 : Int32) (x2 : Int32), loopN (fun (w9 : Int32 × Int32) => f_X3_onlyAnswer_b5 N rCount answers w9.1 w9.2) n9 (x1, x2) = some z → ∀ (H : Heap) (locs : List Loc) (ls : Array Slot), va_P (dC, dI) vwCl (w_X3_onlyAnswer cyI cyJ cyZ qE q_por q_confs q_near q_leads q_agrees q_answers q_hopes q_opens q_most q_ready rRules rCount answers) H → va_D A (w_X3_onlyAnswer cyI cyJ cyZ qE q_por q_confs q_near q_leads q_agrees q_answers q_hopes q_opens q_most q_ready rRules rCount answers) → va_S A s.heap H locs → lv_has ls 3 [(0, .ref qE), (1, .int x1), (2, .int x2)] → W p l e rm_X3_onlyAnswer s m args below meth c H locs 0 0 (MQ below (Qzi dC dI cyI cyJ cyZ A (w_X3_onlyAnswer cyI cyJ cyZ qE q_por q_confs q_near q_leads q_agrees q_answers q_hopes q_opens q_most q_ready rRules rCount answers) r9) args s 0 0 A) (F0 m 5 ls []) := by
  intro n9
  induction n9 with
  | zero => intro _ _ h; cases h
  | succ n9 ih =>
    intro x1 x2 h H locs ls hP hD hS hl
    rcases loopN_el h with ⟨y9, h1, h2⟩ | h1
    · exact t_X3_onlyAnswer_b5 C0 hXs  h1 (fun zx1 zx2 q9 H locs ls hP hD hS hl => ih zx1 zx2 (by cases q9; exact h2) H locs ls hP hD hS hl) (fun _ q9 => by cases q9) (fun _ q9 => by cases q9) H locs ls hP hD hS hl
    · exact t_X3_onlyAnswer_b5 C0 hXs  h1 (fun _ _ q9 => by cases q9) (fun ex1 q9 => Ke ex1 (by cases q9; rfl)) (fun x9 q9 => Kr x9 (by cases q9; rfl)) H locs ls hP hD hS hl
def f_X3_onlyAnswer (N : Nat) (rCount : Int32) (answers : Nat → Int32) : Option (Int32) :=
  bs1 (loopN (fun (w9 : Int32 × Int32) => f_X3_onlyAnswer_b5 N rCount answers w9.1 w9.2) N ((-9), 0)) (fun x9 => some x9) (fun x1_11 => some x1_11)
set_option maxHeartbeats 4000000 in
set_option maxRecDepth 100000 in
theorem t_X3_onlyAnswer (C0 : Cx p s m args meth c cX3_onlyAnswer (some .int) 3 RX3 wsX3_onlyAnswer A dC dI cyI cyJ cyZ) {qE q_por q_confs q_near q_leads q_agrees q_answers q_hopes q_opens q_most q_ready : Nat} (hXs : X0 A s) {N : Nat} {rCount : Int32} {answers : Nat → Int32} {rRules : Int32} {r9 : Int32} (hf : f_X3_onlyAnswer N rCount answers = some r9) (H : Heap) (locs : List Loc) (ls : Array Slot) (hP : va_P (dC, dI) vwCl (w_X3_onlyAnswer cyI cyJ cyZ qE q_por q_confs q_near q_leads q_agrees q_answers q_hopes q_opens q_most q_ready rRules rCount answers) H) (hD : va_D A (w_X3_onlyAnswer cyI cyJ cyZ qE q_por q_confs q_near q_leads q_agrees q_answers q_hopes q_opens q_most q_ready rRules rCount answers)) (hS : va_S A s.heap H locs) (hl : lv_has ls 3 [(0, .ref qE)]) : W p l e rm_X3_onlyAnswer s m args below meth c H locs 0 0 (MQ below (Qzi dC dI cyI cyJ cyZ A (w_X3_onlyAnswer cyI cyJ cyZ qE q_por q_confs q_near q_leads q_agrees q_answers q_hopes q_opens q_most q_ready rRules rCount answers) r9) args s 0 0 A) (F0 m 0 ls []) := by
  have C1 := C0
  obtain ⟨hx, hb, hr, hlocks, hml, hown, hts, hA, hK⟩ := C1
  unfold f_X3_onlyAnswer at hf
  refine lv_bipush (v := (-9)) hx hb dX3_onlyAnswer_0 (by decide) ?_
  refine lv_istore_n (lv' := [(1, .int (-9)), (0, .ref qE)]) hx hb dX3_onlyAnswer_2 rfl hl (by decide) rfl (fun ls hl => ?_)
  refine lv_iconst (v := 0) hx hb dX3_onlyAnswer_3 (by decide) ?_
  refine lv_istore_n (lv' := [(2, .int 0), (1, .int (-9)), (0, .ref qE)]) hx hb dX3_onlyAnswer_4 rfl hl (by decide) rfl (fun ls hl => ?_)
  rcases bs1_el hf with ⟨x9, hlp, hf⟩ | ⟨x1_11, hlp, hf⟩
  · exact l_X3_onlyAnswer_b5 C0 hXs (fun _ q9 => by cases q9) (fun x9 q9 => by cases q9; exact Option.some.inj hf) N _ _ hlp H locs ls hP hD hS (lv_sub hl [2, 1, 0] rfl)
  refine l_X3_onlyAnswer_b5 C0 hXs (fun x1_11 q9 H locs ls hP hD hS hl => ?_) (fun _ q9 => by cases q9) N _ _ hlp H locs ls hP hD hS (lv_sub hl [2, 1, 0] rfl)
  cases q9
  refine lv_iload_n hx hb dX3_onlyAnswer_56 rfl (lv_at hl 0 rfl) ?_
  cases hf
  exact W.iret hx hb hr (fun t ht hW => ⟨⟨_, (), rfl, rfl, by rw [ht]; exact hP, va_K.moved hW.alike hK, hD⟩, hS.F ht⟩) hS.2.2 dX3_onlyAnswer_57
set_option maxHeartbeats 4000000 in
set_option maxRecDepth 100000 in
theorem c_X3_onlyAnswer (l : Launch) (dC : Nat → ClassId) (dI : Nat → Nat → Nat) (cyI cyJ cyZ : ClassId) (qE q_por q_confs q_near q_leads q_agrees q_answers q_hopes q_opens q_most q_ready : Nat) (sz N : Nat) (rCount : Int32) (answers : Nat → Int32) (rRules : Int32) (r9 : Int32) (hf : f_X3_onlyAnswer N rCount answers = some r9) : Met l yX3_onlyAnswer wsX3_onlyAnswer rm_X3_onlyAnswer (Pz dC dI cyI cyJ cyZ [.ref qE] sz (w_X3_onlyAnswer cyI cyJ cyZ qE q_por q_confs q_near q_leads q_agrees q_answers q_hopes q_opens q_most q_ready rRules rCount answers) X0) (Qzi dC dI cyI cyJ cyZ (va_A (w_X3_onlyAnswer cyI cyJ cyZ qE q_por q_confs q_near q_leads q_agrees q_answers q_hopes q_opens q_most q_ready rRules rCount answers) sz) (w_X3_onlyAnswer cyI cyJ cyZ qE q_por q_confs q_near q_leads q_agrees q_answers q_hopes q_opens q_most q_ready rRules rCount answers) r9) 0 0 (va_A (w_X3_onlyAnswer cyI cyJ cyZ qE q_por q_confs q_near q_leads q_agrees q_answers q_hopes q_opens q_most q_ready rRules rCount answers) sz) := by
  refine Met_of (cc := cX3_onlyAnswer) (maxL := 3) (ret := (some .int)) (by decide) rfl (Nat.le_of_ble_eq_true rfl) ?_
  intro p e s m args below meth c ls C0 hsz hXs hP hD hS hl
  exact t_X3_onlyAnswer C0 hXs hf s.heap [] ls hP hD hS hl
abbrev w_X3_leadsToHope (cyI cyJ cyZ : ClassId) (qE q_por q_confs q_near q_leads q_agrees q_answers q_hopes q_opens q_most q_ready : Nat) (rRules : Int32) (rCount : Int32) (leads : Nat → Int32) (hopes : Nat → Int32) : va_W := [(qE, .inr (2, [.ref q_por, .ref q_confs, .ref q_near, .ref q_leads, .ref q_agrees, .ref q_answers, .ref q_hopes, .ref q_opens, .ref q_most, .ref q_ready, .int rRules, .int rCount])), (q_leads, .inl (cyI, 5544, .inl leads)), (q_hopes, .inl (cyZ, 462, .inl hopes))]
abbrev rm_X3_leadsToHope : Room := { frames := 1, cells := 0, slots := 0, locals := 22 }
theorem hn_X3_leadsToHope_X3 : ∀ w ∈ wsX30, w ∈ wsX3_leadsToHope := fun _ h => List.mem_cons_of_mem _ (List.mem_append_right _ h)
def f_X3_leadsToHope_b2 (N : Nat) (x1 : Int32) (rRules : Int32) (leads : Nat → Int32) (hopes : Nat → Int32) (x2 : Int32) : Option ((Int32) ⊕ ((Int32) ⊕ (Unit))) :=
  (if rRules ≤ x2 then some (Sum.inr (Sum.inr ())) else bd1 (f_X3_leadAt N x1 x2 leads) (fun r_2 => (if r_2 < 0 then nm (x2 + 1) (fun x2_4 => some (Sum.inl x2_4)) else gd (inb r_2 462) ((if (hopes r_2.toNatClampNeg) = 0 then nm (x2 + 1) (fun x2_7 => some (Sum.inl x2_7)) else some (Sum.inr (Sum.inl 1)))))))
set_option maxHeartbeats 4000000 in
set_option maxRecDepth 100000 in
theorem t_X3_leadsToHope_b2 (C0 : Cx p s m args meth c cX3_leadsToHope (some .boolean) 4 RX3 wsX3_leadsToHope A dC dI cyI cyJ cyZ) {qE q_por q_confs q_near q_leads q_agrees q_answers q_hopes q_opens q_most q_ready : Nat} (hXs : X0 A s) {N : Nat} {x1 : Int32} {rRules : Int32} {leads : Nat → Int32} {hopes : Nat → Int32} {x2 : Int32} {rCount : Int32} {r9 : Int32} {r : (Int32) ⊕ ((Int32) ⊕ (Unit))} (hf : f_X3_leadsToHope_b2 N x1 rRules leads hopes x2 = some r) (Kh : ∀ (zx2 : Int32), r = Sum.inl zx2 → ∀ (H : Heap) (locs : List Loc) (ls : Array Slot), va_P (dC, dI) vwCl (w_X3_leadsToHope cyI cyJ cyZ qE q_por q_confs q_near q_leads q_agrees q_answers q_hopes q_opens q_most q_ready rRules rCount leads hopes) H → va_D A (w_X3_leadsToHope cyI cyJ cyZ qE q_por q_confs q_near q_leads q_agrees q_answers q_hopes q_opens q_most q_ready rRules rCount leads hopes) → va_S A s.heap H locs → lv_has ls 4 [(0, .ref qE), (1, .int x1), (2, .int zx2)] → W p l e rm_X3_leadsToHope s m args below meth c H locs 0 0 (MQ below (Qzi dC dI cyI cyJ cyZ A (w_X3_leadsToHope cyI cyJ cyZ qE q_por q_confs q_near q_leads q_agrees q_answers q_hopes q_opens q_most q_ready rRules rCount leads hopes) r9) args s 0 0 A) (F0 m 2 ls [])) (Ke : r = Sum.inr (Sum.inr ()) → ∀ (H : Heap) (locs : List Loc) (ls : Array Slot), va_P (dC, dI) vwCl (w_X3_leadsToHope cyI cyJ cyZ qE q_por q_confs q_near q_leads q_agrees q_answers q_hopes q_opens q_most q_ready rRules rCount leads hopes) H → va_D A (w_X3_leadsToHope cyI cyJ cyZ qE q_por q_confs q_near q_leads q_agrees q_answers q_hopes q_opens q_most q_ready rRules rCount leads hopes) → va_S A s.heap H locs → lv_has ls 4 [] → W p l e rm_X3_leadsToHope s m args below meth c H locs 0 0 (MQ below (Qzi dC dI cyI cyJ cyZ A (w_X3_leadsToHope cyI cyJ cyZ qE q_por q_confs q_near q_leads q_agrees q_answers q_hopes q_opens q_most q_ready rRules rCount leads hopes) r9) args s 0 0 A) (F0 m 38 ls [])) (Kr : ∀ x9 : Int32, r = Sum.inr (Sum.inl x9) → x9 = r9) (H : Heap) (locs : List Loc) (ls : Array Slot) (hP : va_P (dC, dI) vwCl (w_X3_leadsToHope cyI cyJ cyZ qE q_por q_confs q_near q_leads q_agrees q_answers q_hopes q_opens q_most q_ready rRules rCount leads hopes) H) (hD : va_D A (w_X3_leadsToHope cyI cyJ cyZ qE q_por q_confs q_near q_leads q_agrees q_answers q_hopes q_opens q_most q_ready rRules rCount leads hopes)) (hS : va_S A s.heap H locs) (hl : lv_has ls 4 [(0, .ref qE), (1, .int x1), (2, .int x2)]) : W p l e rm_X3_leadsToHope s m args below meth c H locs 0 0 (MQ below (Qzi dC dI cyI cyJ cyZ A (w_X3_leadsToHope cyI cyJ cyZ qE q_por q_confs q_near q_leads q_agrees q_answers q_hopes q_opens q_most q_ready rRules rCount leads hopes) r9) args s 0 0 A) (F0 m 2 ls []) := by
  have C1 := C0
  obtain ⟨hx, hb, hr, hlocks, hml, hown, hts, hA, hK⟩ := C1
  unfold f_X3_leadsToHope_b2 at hf
  refine lv_iload_n hx hb dX3_leadsToHope_2 rfl (lv_at hl 2 rfl) ?_
  refine lv_aload_n hx hb dX3_leadsToHope_3 rfl (lv_at hl 0 rfl) ?_
  refine va_get (D := (dC, dI)) (ci := 2) (v := .int rRules) (C := RX3) (T := TX3) (N := 12) hx hb hts hn_X3_leadsToHope_X3 hown hK hP 0 rfl rfl 10 (by decide) (hts (.fieldLink RX3 57 "MetAgents$Reach" "rules" "I") (List.mem_of_getElem? (i := 1) rfl)) (fun _ h9 => h9) rfl dX3_leadsToHope_4 ?_
  refine lv_icmp_ge (tgt := 38) hx hb dX3_leadsToHope_7 (by decide) (fun c_1 => ?_) (fun c_1 => ?_)
  · replace hf := it_t hf c_1
    exact Ke  (Option.some.inj hf).symm H locs ls hP hD hS (lv_sub hl [] rfl)
  · replace hf := it_f hf c_1
    refine lv_aload_n hx hb dX3_leadsToHope_10 rfl (lv_at hl 0 rfl) ?_
    refine lv_iload_n hx hb dX3_leadsToHope_11 rfl (lv_at hl 1 rfl) ?_
    refine lv_iload_n hx hb dX3_leadsToHope_12 rfl (lv_at hl 2 rfl) ?_
    obtain ⟨r_2, hc, hf⟩ := bd1_el hf
    refine cl_i (wc := (w_X3_leadAt cyI cyJ cyZ qE q_por q_confs q_near q_leads q_agrees q_answers q_hopes q_opens q_most q_ready rRules rCount leads)) (wr := [(q_hopes, .inl (cyZ, 462, .inl hopes))]) (w1 := (w_X3_leadAt cyI cyJ cyZ qE q_por q_confs q_near q_leads q_agrees q_answers q_hopes q_opens q_most q_ready rRules rCount leads)) (w2 := (w_X3_leadsToHope cyI cyJ cyZ qE q_por q_confs q_near q_leads q_agrees q_answers q_hopes q_opens q_most q_ready rRules rCount leads hopes)) C0 (rn_V (As := [.int x1, .int x2]) (rest := []) (wc := (w_X3_leadAt cyI cyJ cyZ qE q_por q_confs q_near q_leads q_agrees q_answers q_hopes q_opens q_most q_ready rRules rCount leads)) (X := X0) C0 (c_X3_leadAt l dC dI cyI cyJ cyZ qE q_por q_confs q_near q_leads q_agrees q_answers q_hopes q_opens q_most q_ready H.size N x1 x2 leads rRules rCount r_2 hc) (cwV 2 hts gX3_leadsToHope_X3_leadAt rfl rfl rfl (by decide +kernel) ⟨Nat.le_of_ble_eq_true rfl, Nat.le_of_ble_eq_true rfl⟩) X0_car trivial hP hD hS [0, 1] rfl rfl 0 2 rfl rfl rfl hl.1 rfl (Nat.le_of_ble_eq_true rfl) dX3_leadsToHope_13 ⟨Nat.le_of_ble_eq_true rfl, Nat.le_of_ble_eq_true rfl⟩) hP hD hS [0, 1] [2] [1, 2, 0] rfl rfl rfl (by decide) rfl rfl (fun H locs hP hD hS => ?_)
    refine lv_istore_n (lv' := [(3, .int r_2), (0, .ref qE), (1, .int x1), (2, .int x2)]) hx hb dX3_leadsToHope_16 rfl hl (by decide) rfl (fun ls hl => ?_)
    refine lv_iload_n hx hb dX3_leadsToHope_17 rfl (lv_at hl 0 rfl) ?_
    refine lv_if_lt (tgt := 32) hx hb dX3_leadsToHope_18 (by decide) (fun c_3 => ?_) (fun c_3 => ?_)
    · replace hf := it_t hf c_3
      obtain ⟨x2_4, e_4, hf⟩ := nm_el hf
      refine lv_iinc (v := x2_4) (lv' := [(2, .int x2_4), (3, .int r_2), (0, .ref qE), (1, .int x1)]) hx hb dX3_leadsToHope_32 hl (k := 3) rfl (by rw [e_4]; rfl) (by decide) rfl (fun ls hl => ?_)
      refine lv_goto (tgt := 2) hx hb dX3_leadsToHope_35 (by decide) ?_
      exact Kh _ (Option.some.inj hf).symm H locs ls hP hD hS (lv_sub hl [2, 3, 0] rfl)
    · replace hf := it_f hf c_3
      refine lv_aload_n hx hb dX3_leadsToHope_21 rfl (lv_at hl 1 rfl) ?_
      refine va_get (D := (dC, dI)) (ci := 2) (v := .ref q_hopes) (C := RX3) (T := TX3) (N := 12) hx hb hts hn_X3_leadsToHope_X3 hown hK hP 0 rfl rfl 6 (by decide) (hts (.fieldLink RX3 32 "MetAgents$Reach" "hopes" "[Z") (List.mem_of_getElem? (i := 2) rfl)) (fun _ h9 => h9) rfl dX3_leadsToHope_22 ?_
      refine lv_iload_n hx hb dX3_leadsToHope_25 rfl (lv_at hl 0 rfl) ?_
      obtain ⟨h_5, hf⟩ := gd_el hf
      refine va_zald hx hb hK hP 2 2 rfl rfl (inb_in h_5) dX3_leadsToHope_26 ?_
      refine lv_if_eq (tgt := 32) hx hb dX3_leadsToHope_27 (by decide) (fun c_6 => ?_) (fun c_6 => ?_)
      · replace hf := it_t hf c_6
        obtain ⟨x2_7, e_7, hf⟩ := nm_el hf
        refine lv_iinc (v := x2_7) (lv' := [(2, .int x2_7), (3, .int r_2), (0, .ref qE), (1, .int x1)]) hx hb dX3_leadsToHope_32 hl (k := 3) rfl (by rw [e_7]; rfl) (by decide) rfl (fun ls hl => ?_)
        refine lv_goto (tgt := 2) hx hb dX3_leadsToHope_35 (by decide) ?_
        exact Kh _ (Option.some.inj hf).symm H locs ls hP hD hS (lv_sub hl [2, 3, 0] rfl)
      · replace hf := it_f hf c_6
        refine lv_iconst (v := 1) hx hb dX3_leadsToHope_30 (by decide) ?_
        cases Kr _ (Option.some.inj hf).symm
        exact W.zret hx hb hr rfl (fun t ht hW => ⟨⟨_, (), rfl, rfl, by rw [ht]; exact hP, va_K.moved hW.alike hK, hD⟩, hS.F ht⟩) hS.2.2 dX3_leadsToHope_31
set_option maxHeartbeats 4000000 in
set_option maxRecDepth 100000 in
theorem l_X3_leadsToHope_b2 (C0 : Cx p s m args meth c cX3_leadsToHope (some .boolean) 4 RX3 wsX3_leadsToHope A dC dI cyI cyJ cyZ) {qE q_por q_confs q_near q_leads q_agrees q_answers q_hopes q_opens q_most q_ready : Nat} (hXs : X0 A s) {N : Nat} {x1 : Int32} {rRules : Int32} {leads : Nat → Int32} {hopes : Nat → Int32} {rCount : Int32} {r9 : Int32} {z : (Int32) ⊕ (Unit)} (Ke : z = Sum.inr () → ∀ (H : Heap) (locs : List Loc) (ls : Array Slot), va_P (dC, dI) vwCl (w_X3_leadsToHope cyI cyJ cyZ qE q_por q_confs q_near q_leads q_agrees q_answers q_hopes q_opens q_most q_ready rRules rCount leads hopes) H → va_D A (w_X3_leadsToHope cyI cyJ cyZ qE q_por q_confs q_near q_leads q_agrees q_answers q_hopes q_opens q_most q_ready rRules rCount leads hopes) → va_S A s.heap H locs → lv_has ls 4 [] → W p l e rm_X3_leadsToHope s m args below meth c H locs 0 0 (MQ below (Qzi dC dI cyI cyJ cyZ A (w_X3_leadsToHope cyI cyJ cyZ qE q_por q_confs q_near q_leads q_agrees q_answers q_hopes q_opens q_most q_ready rRules rCount leads hopes) r9) args s 0 0 A) (F0 m 38 ls [])) (Kr : ∀ x9 : Int32, z = Sum.inl x9 → x9 = r9) : ∀ (n9 : Nat) (x2 : Int32), loopN (fun (w9 : Int32) => f_X3_leadsToHope_b2 N x1 rRules leads hopes w9) n9 x2 = some z → ∀ (H : Heap) (locs : List Loc) (ls : Array Slot), va_P (dC, dI) vwCl (w_X3_leadsToHope cyI cyJ cyZ qE q_por q_confs q_near q_leads q_agrees q_answers q_hopes q_opens q_most q_ready rRules rCount leads hopes) H → va_D A (w_X3_leadsToHope cyI cyJ cyZ qE q_por q_confs q_near q_leads q_agrees q_answers q_hopes q_opens q_most q_ready rRules rCount leads hopes) → va_S A s.heap H locs → lv_has ls 4 [(0, .ref qE), (1, .int x1), (2, .int x2)] → W p l e rm_X3_leadsToHope s m args below meth c H locs 0 0 (MQ below (Qzi dC dI cyI cyJ cyZ A (w_X3_leadsToHope cyI cyJ cyZ qE q_por q_confs q_near q_leads q_agrees q_answers q_hopes q_opens q_most q_ready rRules rCount leads hopes) r9) args s 0 0 A) (F0 m 2 ls []) := by
  intro n9
  induction n9 with
  | zero => intro _ h; cases h
  | succ n9 ih =>
    intro x2 h H locs ls hP hD hS hl
    rcases loopN_el h with ⟨y9, h1, h2⟩ | h1
    · exact t_X3_leadsToHope_b2 C0 hXs  h1 (fun zx2 q9 H locs ls hP hD hS hl => ih zx2 (by cases q9; exact h2) H locs ls hP hD hS hl) (fun  q9 => by cases q9) (fun _ q9 => by cases q9) H locs ls hP hD hS hl
    · exact t_X3_leadsToHope_b2 C0 hXs  h1 (fun _ q9 => by cases q9) (fun  q9 => Ke  (by cases q9; rfl)) (fun x9 q9 => Kr x9 (by cases q9; rfl)) H locs ls hP hD hS hl
def f_X3_leadsToHope (N : Nat) (x1 : Int32) (rRules : Int32) (leads : Nat → Int32) (hopes : Nat → Int32) : Option (Int32) :=
  bs0 (loopN (fun (w9 : Int32) => f_X3_leadsToHope_b2 N x1 rRules leads hopes w9) N 0) (fun x9 => some x9) (some 0)
set_option maxHeartbeats 4000000 in
set_option maxRecDepth 100000 in
theorem t_X3_leadsToHope (C0 : Cx p s m args meth c cX3_leadsToHope (some .boolean) 4 RX3 wsX3_leadsToHope A dC dI cyI cyJ cyZ) {qE q_por q_confs q_near q_leads q_agrees q_answers q_hopes q_opens q_most q_ready : Nat} (hXs : X0 A s) {N : Nat} {x1 : Int32} {rRules : Int32} {leads : Nat → Int32} {hopes : Nat → Int32} {rCount : Int32} {r9 : Int32} (hf : f_X3_leadsToHope N x1 rRules leads hopes = some r9) (H : Heap) (locs : List Loc) (ls : Array Slot) (hP : va_P (dC, dI) vwCl (w_X3_leadsToHope cyI cyJ cyZ qE q_por q_confs q_near q_leads q_agrees q_answers q_hopes q_opens q_most q_ready rRules rCount leads hopes) H) (hD : va_D A (w_X3_leadsToHope cyI cyJ cyZ qE q_por q_confs q_near q_leads q_agrees q_answers q_hopes q_opens q_most q_ready rRules rCount leads hopes)) (hS : va_S A s.heap H locs) (hl : lv_has ls 4 [(0, .ref qE), (1, .int x1)]) : W p l e rm_X3_leadsToHope s m args below meth c H locs 0 0 (MQ below (Qzi dC dI cyI cyJ cyZ A (w_X3_leadsToHope cyI cyJ cyZ qE q_por q_confs q_near q_leads q_agrees q_answers q_hopes q_opens q_most q_ready rRules rCount leads hopes) r9) args s 0 0 A) (F0 m 0 ls []) := by
  have C1 := C0
  obtain ⟨hx, hb, hr, hlocks, hml, hown, hts, hA, hK⟩ := C1
  unfold f_X3_leadsToHope at hf
  refine lv_iconst (v := 0) hx hb dX3_leadsToHope_0 (by decide) ?_
  refine lv_istore_n (lv' := [(2, .int 0), (0, .ref qE), (1, .int x1)]) hx hb dX3_leadsToHope_1 rfl hl (by decide) rfl (fun ls hl => ?_)
  rcases bs0_el hf with ⟨x9, hlp, hf⟩ | ⟨hlp, hf⟩
  · exact l_X3_leadsToHope_b2 C0 hXs (fun q9 => by cases q9) (fun x9 q9 => by cases q9; exact Option.some.inj hf) N _ hlp H locs ls hP hD hS (lv_sub hl [1, 2, 0] rfl)
  refine l_X3_leadsToHope_b2 C0 hXs (fun q9 H locs ls hP hD hS hl => ?_) (fun _ q9 => by cases q9) N _ hlp H locs ls hP hD hS (lv_sub hl [1, 2, 0] rfl)
  cases q9
  refine lv_iconst (v := 0) hx hb dX3_leadsToHope_38 (by decide) ?_
  cases hf
  exact W.zret hx hb hr rfl (fun t ht hW => ⟨⟨_, (), rfl, rfl, by rw [ht]; exact hP, va_K.moved hW.alike hK, hD⟩, hS.F ht⟩) hS.2.2 dX3_leadsToHope_39
set_option maxHeartbeats 4000000 in
set_option maxRecDepth 100000 in
theorem c_X3_leadsToHope (l : Launch) (dC : Nat → ClassId) (dI : Nat → Nat → Nat) (cyI cyJ cyZ : ClassId) (qE q_por q_confs q_near q_leads q_agrees q_answers q_hopes q_opens q_most q_ready : Nat) (sz N : Nat) (x1 : Int32) (rRules : Int32) (leads : Nat → Int32) (hopes : Nat → Int32) (rCount : Int32) (r9 : Int32) (hf : f_X3_leadsToHope N x1 rRules leads hopes = some r9) : Met l yX3_leadsToHope wsX3_leadsToHope rm_X3_leadsToHope (Pz dC dI cyI cyJ cyZ [.ref qE, .int x1] sz (w_X3_leadsToHope cyI cyJ cyZ qE q_por q_confs q_near q_leads q_agrees q_answers q_hopes q_opens q_most q_ready rRules rCount leads hopes) X0) (Qzi dC dI cyI cyJ cyZ (va_A (w_X3_leadsToHope cyI cyJ cyZ qE q_por q_confs q_near q_leads q_agrees q_answers q_hopes q_opens q_most q_ready rRules rCount leads hopes) sz) (w_X3_leadsToHope cyI cyJ cyZ qE q_por q_confs q_near q_leads q_agrees q_answers q_hopes q_opens q_most q_ready rRules rCount leads hopes) r9) 0 0 (va_A (w_X3_leadsToHope cyI cyJ cyZ qE q_por q_confs q_near q_leads q_agrees q_answers q_hopes q_opens q_most q_ready rRules rCount leads hopes) sz) := by
  refine Met_of (cc := cX3_leadsToHope) (maxL := 4) (ret := (some .boolean)) (by decide) rfl (Nat.le_of_ble_eq_true rfl) ?_
  intro p e s m args below meth c ls C0 hsz hXs hP hD hS hl
  exact t_X3_leadsToHope C0 hXs hf s.heap [] ls hP hD hS hl
abbrev w_X3_spreadHope (cyI cyJ cyZ : ClassId) (qE q_por q_confs q_near q_leads q_agrees q_answers q_hopes q_opens q_most q_ready : Nat) (rRules : Int32) (rCount : Int32) (leads : Nat → Int32) (hopes : Nat → Int32) : va_W := [(qE, .inr (2, [.ref q_por, .ref q_confs, .ref q_near, .ref q_leads, .ref q_agrees, .ref q_answers, .ref q_hopes, .ref q_opens, .ref q_most, .ref q_ready, .int rRules, .int rCount])), (q_leads, .inl (cyI, 5544, .inl leads)), (q_hopes, .inl (cyZ, 462, .inl hopes))]
abbrev rm_X3_spreadHope : Room := { frames := 2, cells := 0, slots := 0, locals := 45 }
theorem hn_X3_spreadHope_X3 : ∀ w ∈ wsX30, w ∈ wsX3_spreadHope := fun _ h => List.mem_cons_of_mem _ (List.mem_append_right _ h)
def f_X3_spreadHope_b9 (N : Nat) (rRules : Int32) (rCount : Int32) (leads : Nat → Int32) (x1 : Int32) (x2 : Int32) (hopes : Nat → Int32) : Option ((Int32 × Int32 × (Nat → Int32)) ⊕ (Int32 × (Nat → Int32))) :=
  (if x2 < 0 then some (Sum.inr (x1, hopes)) else gd (inb x2 462) ((if (hopes x2.toNatClampNeg) = 0 then bd1 (f_X3_leadsToHope N x2 rRules leads hopes) (fun r_6 => (if r_6 = 0 then nm (x2 + (-1)) (fun x2_8 => some (Sum.inl (x1, x2_8, hopes))) else gd (inb x2 462) (nm (upd hopes x2.toNatClampNeg (vp_nar .boolean (1 : Int32))) (fun hopes_10 => nm (x2 + (-1)) (fun x2_11 => some (Sum.inl (1, x2_11, hopes_10))))))) else nm (x2 + (-1)) (fun x2_5 => some (Sum.inl (x1, x2_5, hopes))))))
set_option maxHeartbeats 4000000 in
set_option maxRecDepth 100000 in
theorem t_X3_spreadHope_b9 (C0 : Cx p s m args meth c cX3_spreadHope (some .boolean) 3 RX3 wsX3_spreadHope A dC dI cyI cyJ cyZ) {qE q_por q_confs q_near q_leads q_agrees q_answers q_hopes q_opens q_most q_ready : Nat} (hXs : X0 A s) {N : Nat} {rRules : Int32} {rCount : Int32} {leads : Nat → Int32} {x1 : Int32} {x2 : Int32} {hopes : Nat → Int32} {r9 : Int32} {hopes9 : Nat → Int32} {r : (Int32 × Int32 × (Nat → Int32)) ⊕ (Int32 × (Nat → Int32))} (hf : f_X3_spreadHope_b9 N rRules rCount leads x1 x2 hopes = some r) (Kh : ∀ (zx1 : Int32) (zx2 : Int32) (zhopes : Nat → Int32), r = Sum.inl (zx1, zx2, zhopes) → ∀ (H : Heap) (locs : List Loc) (ls : Array Slot), va_P (dC, dI) vwCl (w_X3_spreadHope cyI cyJ cyZ qE q_por q_confs q_near q_leads q_agrees q_answers q_hopes q_opens q_most q_ready rRules rCount leads zhopes) H → va_D A (w_X3_spreadHope cyI cyJ cyZ qE q_por q_confs q_near q_leads q_agrees q_answers q_hopes q_opens q_most q_ready rRules rCount leads zhopes) → va_S A s.heap H locs → lv_has ls 3 [(0, .ref qE), (1, .int zx1), (2, .int zx2)] → W p l e rm_X3_spreadHope s m args below meth c H locs 0 0 (MQ below (Qzi dC dI cyI cyJ cyZ A (w_X3_spreadHope cyI cyJ cyZ qE q_por q_confs q_near q_leads q_agrees q_answers q_hopes q_opens q_most q_ready rRules rCount leads hopes9) r9) args s 0 0 A) (F0 m 9 ls [])) (Ke : ∀ (zx1 : Int32) (zhopes : Nat → Int32), r = Sum.inr (zx1, zhopes) → ∀ (H : Heap) (locs : List Loc) (ls : Array Slot), va_P (dC, dI) vwCl (w_X3_spreadHope cyI cyJ cyZ qE q_por q_confs q_near q_leads q_agrees q_answers q_hopes q_opens q_most q_ready rRules rCount leads zhopes) H → va_D A (w_X3_spreadHope cyI cyJ cyZ qE q_por q_confs q_near q_leads q_agrees q_answers q_hopes q_opens q_most q_ready rRules rCount leads zhopes) → va_S A s.heap H locs → lv_has ls 3 [(1, .int zx1)] → W p l e rm_X3_spreadHope s m args below meth c H locs 0 0 (MQ below (Qzi dC dI cyI cyJ cyZ A (w_X3_spreadHope cyI cyJ cyZ qE q_por q_confs q_near q_leads q_agrees q_answers q_hopes q_opens q_most q_ready rRules rCount leads hopes9) r9) args s 0 0 A) (F0 m 45 ls [])) (H : Heap) (locs : List Loc) (ls : Array Slot) (hP : va_P (dC, dI) vwCl (w_X3_spreadHope cyI cyJ cyZ qE q_por q_confs q_near q_leads q_agrees q_answers q_hopes q_opens q_most q_ready rRules rCount leads hopes) H) (hD : va_D A (w_X3_spreadHope cyI cyJ cyZ qE q_por q_confs q_near q_leads q_agrees q_answers q_hopes q_opens q_most q_ready rRules rCount leads hopes)) (hS : va_S A s.heap H locs) (hl : lv_has ls 3 [(0, .ref qE), (1, .int x1), (2, .int x2)]) : W p l e rm_X3_spreadHope s m args below meth c H locs 0 0 (MQ below (Qzi dC dI cyI cyJ cyZ A (w_X3_spreadHope cyI cyJ cyZ qE q_por q_confs q_near q_leads q_agrees q_answers q_hopes q_opens q_most q_ready rRules rCount leads hopes9) r9) args s 0 0 A) (F0 m 9 ls []) := by
  have C1 := C0
  obtain ⟨hx, hb, hr, hlocks, hml, hown, hts, hA, hK⟩ := C1
  unfold f_X3_spreadHope_b9 at hf
  refine lv_iload_n hx hb dX3_spreadHope_9 rfl (lv_at hl 2 rfl) ?_
  refine lv_if_lt (tgt := 45) hx hb dX3_spreadHope_10 (by decide) (fun c_2 => ?_) (fun c_2 => ?_)
  · replace hf := it_t hf c_2
    exact Ke _ _ (Option.some.inj hf).symm H locs ls hP hD hS (lv_sub hl [1] rfl)
  · replace hf := it_f hf c_2
    refine lv_aload_n hx hb dX3_spreadHope_13 rfl (lv_at hl 0 rfl) ?_
    refine va_get (D := (dC, dI)) (ci := 2) (v := .ref q_hopes) (C := RX3) (T := TX3) (N := 12) hx hb hts hn_X3_spreadHope_X3 hown hK hP 0 rfl rfl 6 (by decide) (hts (.fieldLink RX3 32 "MetAgents$Reach" "hopes" "[Z") (List.mem_of_getElem? (i := 2) rfl)) (fun _ h9 => h9) rfl dX3_spreadHope_14 ?_
    refine lv_iload_n hx hb dX3_spreadHope_17 rfl (lv_at hl 2 rfl) ?_
    obtain ⟨h_3, hf⟩ := gd_el hf
    refine va_zald hx hb hK hP 2 2 rfl rfl (inb_in h_3) dX3_spreadHope_18 ?_
    refine lv_if_ne (tgt := 39) hx hb dX3_spreadHope_19 (by decide) (fun c_4 => ?_) (fun c_4 => ?_)
    · replace hf := it_f hf c_4
      obtain ⟨x2_5, e_5, hf⟩ := nm_el hf
      refine lv_iinc (v := x2_5) (lv' := [(2, .int x2_5), (0, .ref qE), (1, .int x1)]) hx hb dX3_spreadHope_39 hl (k := 2) rfl (by rw [e_5]; rfl) (by decide) rfl (fun ls hl => ?_)
      refine lv_goto (tgt := 9) hx hb dX3_spreadHope_42 (by decide) ?_
      exact Kh _ _ _ (Option.some.inj hf).symm H locs ls hP hD hS (lv_sub hl [1, 2, 0] rfl)
    · replace hf := it_t hf c_4
      refine lv_aload_n hx hb dX3_spreadHope_22 rfl (lv_at hl 0 rfl) ?_
      refine lv_iload_n hx hb dX3_spreadHope_23 rfl (lv_at hl 2 rfl) ?_
      obtain ⟨r_6, hc, hf⟩ := bd1_el hf
      refine cl_i (wc := (w_X3_leadsToHope cyI cyJ cyZ qE q_por q_confs q_near q_leads q_agrees q_answers q_hopes q_opens q_most q_ready rRules rCount leads hopes)) (wr := []) (w1 := (w_X3_leadsToHope cyI cyJ cyZ qE q_por q_confs q_near q_leads q_agrees q_answers q_hopes q_opens q_most q_ready rRules rCount leads hopes)) (w2 := (w_X3_spreadHope cyI cyJ cyZ qE q_por q_confs q_near q_leads q_agrees q_answers q_hopes q_opens q_most q_ready rRules rCount leads hopes)) C0 (rn_V (As := [.int x2]) (rest := []) (wc := (w_X3_leadsToHope cyI cyJ cyZ qE q_por q_confs q_near q_leads q_agrees q_answers q_hopes q_opens q_most q_ready rRules rCount leads hopes)) (X := X0) C0 (c_X3_leadsToHope l dC dI cyI cyJ cyZ qE q_por q_confs q_near q_leads q_agrees q_answers q_hopes q_opens q_most q_ready H.size N x2 rRules leads hopes rCount r_6 hc) (cwV 1 hts gX3_spreadHope_X3_leadsToHope rfl rfl rfl (by decide +kernel) ⟨Nat.le_of_ble_eq_true rfl, Nat.le_of_ble_eq_true rfl⟩) X0_car trivial hP hD hS [0, 1, 2] rfl rfl 0 2 rfl rfl rfl hl.1 rfl (Nat.le_of_ble_eq_true rfl) dX3_spreadHope_24 ⟨Nat.le_of_ble_eq_true rfl, Nat.le_of_ble_eq_true rfl⟩) hP hD hS [0, 1, 2] [] [0, 1, 2] rfl rfl rfl (by decide) rfl rfl (fun H locs hP hD hS => ?_)
      refine lv_if_eq (tgt := 39) hx hb dX3_spreadHope_27 (by decide) (fun c_7 => ?_) (fun c_7 => ?_)
      · replace hf := it_t hf c_7
        obtain ⟨x2_8, e_8, hf⟩ := nm_el hf
        refine lv_iinc (v := x2_8) (lv' := [(2, .int x2_8), (0, .ref qE), (1, .int x1)]) hx hb dX3_spreadHope_39 hl (k := 2) rfl (by rw [e_8]; rfl) (by decide) rfl (fun ls hl => ?_)
        refine lv_goto (tgt := 9) hx hb dX3_spreadHope_42 (by decide) ?_
        exact Kh _ _ _ (Option.some.inj hf).symm H locs ls hP hD hS (lv_sub hl [1, 2, 0] rfl)
      · replace hf := it_f hf c_7
        refine lv_aload_n hx hb dX3_spreadHope_30 rfl (lv_at hl 0 rfl) ?_
        refine va_get (D := (dC, dI)) (ci := 2) (v := .ref q_hopes) (C := RX3) (T := TX3) (N := 12) hx hb hts hn_X3_spreadHope_X3 hown hK hP 0 rfl rfl 6 (by decide) (hts (.fieldLink RX3 32 "MetAgents$Reach" "hopes" "[Z") (List.mem_of_getElem? (i := 2) rfl)) (fun _ h9 => h9) rfl dX3_spreadHope_31 ?_
        refine lv_iload_n hx hb dX3_spreadHope_34 rfl (lv_at hl 2 rfl) ?_
        refine lv_iconst (v := 1) hx hb dX3_spreadHope_35 (by decide) ?_
        obtain ⟨h_9, hf⟩ := gd_el hf
        obtain ⟨hopes_10, e_10, hf⟩ := nm_el hf
        refine ast_z (w2 := (w_X3_spreadHope cyI cyJ cyZ qE q_por q_confs q_near q_leads q_agrees q_answers q_hopes q_opens q_most q_ready rRules rCount leads hopes_10)) hx hb hK hP hD hS 2 2 rfl rfl (inb_in h_9) e_10 rfl dX3_spreadHope_36 (fun H locs hP hD hS => ?_)
        refine lv_iconst (v := 1) hx hb dX3_spreadHope_37 (by decide) ?_
        refine lv_istore_n (lv' := [(1, .int 1), (0, .ref qE), (2, .int x2)]) hx hb dX3_spreadHope_38 rfl hl (by decide) rfl (fun ls hl => ?_)
        obtain ⟨x2_11, e_11, hf⟩ := nm_el hf
        refine lv_iinc (v := x2_11) (lv' := [(2, .int x2_11), (1, .int 1), (0, .ref qE)]) hx hb dX3_spreadHope_39 hl (k := 2) rfl (by rw [e_11]; rfl) (by decide) rfl (fun ls hl => ?_)
        refine lv_goto (tgt := 9) hx hb dX3_spreadHope_42 (by decide) ?_
        exact Kh _ _ _ (Option.some.inj hf).symm H locs ls hP hD hS (lv_sub hl [2, 1, 0] rfl)
set_option maxHeartbeats 4000000 in
set_option maxRecDepth 100000 in
theorem l_X3_spreadHope_b9 (C0 : Cx p s m args meth c cX3_spreadHope (some .boolean) 3 RX3 wsX3_spreadHope A dC dI cyI cyJ cyZ) {qE q_por q_confs q_near q_leads q_agrees q_answers q_hopes q_opens q_most q_ready : Nat} (hXs : X0 A s) {N : Nat} {rRules : Int32} {rCount : Int32} {leads : Nat → Int32} {r9 : Int32} {hopes9 : Nat → Int32} {z : Int32 × (Nat → Int32)} (Ke : ∀ (zx1 : Int32) (zhopes : Nat → Int32), z = (zx1, zhopes) → ∀ (H : Heap) (locs : List Loc) (ls : Array Slot), va_P (dC, dI) vwCl (w_X3_spreadHope cyI cyJ cyZ qE q_por q_confs q_near q_leads q_agrees q_answers q_hopes q_opens q_most q_ready rRules rCount leads zhopes) H → va_D A (w_X3_spreadHope cyI cyJ cyZ qE q_por q_confs q_near q_leads q_agrees q_answers q_hopes q_opens q_most q_ready rRules rCount leads zhopes) → va_S A s.heap H locs → lv_has ls 3 [(1, .int zx1)] → W p l e rm_X3_spreadHope s m args below meth c H locs 0 0 (MQ below (Qzi dC dI cyI cyJ cyZ A (w_X3_spreadHope cyI cyJ cyZ qE q_por q_confs q_near q_leads q_agrees q_answers q_hopes q_opens q_most q_ready rRules rCount leads hopes9) r9) args s 0 0 A) (F0 m 45 ls [])) : ∀ (n9 : Nat) (x1 : Int32) (x2 : Int32) (hopes : Nat → Int32), loopN (fun (w9 : Int32 × Int32 × (Nat → Int32)) => f_X3_spreadHope_b9 N rRules rCount leads w9.1 w9.2.1 w9.2.2) n9 (x1, x2, hopes) = some z → ∀ (H : Heap) (locs : List Loc) (ls : Array Slot), va_P (dC, dI) vwCl (w_X3_spreadHope cyI cyJ cyZ qE q_por q_confs q_near q_leads q_agrees q_answers q_hopes q_opens q_most q_ready rRules rCount leads hopes) H → va_D A (w_X3_spreadHope cyI cyJ cyZ qE q_por q_confs q_near q_leads q_agrees q_answers q_hopes q_opens q_most q_ready rRules rCount leads hopes) → va_S A s.heap H locs → lv_has ls 3 [(0, .ref qE), (1, .int x1), (2, .int x2)] → W p l e rm_X3_spreadHope s m args below meth c H locs 0 0 (MQ below (Qzi dC dI cyI cyJ cyZ A (w_X3_spreadHope cyI cyJ cyZ qE q_por q_confs q_near q_leads q_agrees q_answers q_hopes q_opens q_most q_ready rRules rCount leads hopes9) r9) args s 0 0 A) (F0 m 9 ls []) := by
  intro n9
  induction n9 with
  | zero => intro _ _ _ h; cases h
  | succ n9 ih =>
    intro x1 x2 hopes h H locs ls hP hD hS hl
    rcases loopN_el h with ⟨y9, h1, h2⟩ | h1
    · exact t_X3_spreadHope_b9 C0 hXs  h1 (fun zx1 zx2 zhopes q9 H locs ls hP hD hS hl => ih zx1 zx2 zhopes (by cases q9; exact h2) H locs ls hP hD hS hl) (fun _ _ q9 => by cases q9) H locs ls hP hD hS hl
    · exact t_X3_spreadHope_b9 C0 hXs  h1 (fun _ _ _ q9 => by cases q9) (fun ex1 ehopes q9 => Ke ex1 ehopes (by cases q9; rfl)) H locs ls hP hD hS hl
def f_X3_spreadHope (N : Nat) (rRules : Int32) (rCount : Int32) (leads : Nat → Int32) (hopes : Nat → Int32) : Option (Int32 × (Nat → Int32)) :=
  nm (rCount - 1) (fun x2_1 => bd2 (loopN (fun (w9 : Int32 × Int32 × (Nat → Int32)) => f_X3_spreadHope_b9 N rRules rCount leads w9.1 w9.2.1 w9.2.2) N (0, x2_1, hopes)) (fun x1_12 hopes_13 => gd (bz x1_12) (some (x1_12, hopes_13))))
set_option maxHeartbeats 4000000 in
set_option maxRecDepth 100000 in
theorem t_X3_spreadHope (C0 : Cx p s m args meth c cX3_spreadHope (some .boolean) 3 RX3 wsX3_spreadHope A dC dI cyI cyJ cyZ) {qE q_por q_confs q_near q_leads q_agrees q_answers q_hopes q_opens q_most q_ready : Nat} (hXs : X0 A s) {N : Nat} {rRules : Int32} {rCount : Int32} {leads : Nat → Int32} {hopes : Nat → Int32} {r9 : Int32} {hopes9 : Nat → Int32} (hf : f_X3_spreadHope N rRules rCount leads hopes = some (r9, hopes9)) (H : Heap) (locs : List Loc) (ls : Array Slot) (hP : va_P (dC, dI) vwCl (w_X3_spreadHope cyI cyJ cyZ qE q_por q_confs q_near q_leads q_agrees q_answers q_hopes q_opens q_most q_ready rRules rCount leads hopes) H) (hD : va_D A (w_X3_spreadHope cyI cyJ cyZ qE q_por q_confs q_near q_leads q_agrees q_answers q_hopes q_opens q_most q_ready rRules rCount leads hopes)) (hS : va_S A s.heap H locs) (hl : lv_has ls 3 [(0, .ref qE)]) : W p l e rm_X3_spreadHope s m args below meth c H locs 0 0 (MQ below (Qzi dC dI cyI cyJ cyZ A (w_X3_spreadHope cyI cyJ cyZ qE q_por q_confs q_near q_leads q_agrees q_answers q_hopes q_opens q_most q_ready rRules rCount leads hopes9) r9) args s 0 0 A) (F0 m 0 ls []) := by
  have C1 := C0
  obtain ⟨hx, hb, hr, hlocks, hml, hown, hts, hA, hK⟩ := C1
  unfold f_X3_spreadHope at hf
  refine lv_iconst (v := 0) hx hb dX3_spreadHope_0 (by decide) ?_
  refine lv_istore_n (lv' := [(1, .int 0), (0, .ref qE)]) hx hb dX3_spreadHope_1 rfl hl (by decide) rfl (fun ls hl => ?_)
  refine lv_aload_n hx hb dX3_spreadHope_2 rfl (lv_at hl 1 rfl) ?_
  refine va_get (D := (dC, dI)) (ci := 2) (v := .int rCount) (C := RX3) (T := TX3) (N := 12) hx hb hts hn_X3_spreadHope_X3 hown hK hP 0 rfl rfl 11 (by decide) (hts (.fieldLink RX3 60 "MetAgents$Reach" "count" "I") (List.mem_of_getElem? (i := 1) rfl)) (fun _ h9 => h9) rfl dX3_spreadHope_3 ?_
  refine lv_iconst (v := 1) hx hb dX3_spreadHope_6 (by decide) ?_
  refine lv_isub hx hb dX3_spreadHope_7 ?_
  obtain ⟨x2_1, e_1, hf⟩ := nm_el hf
  refine top_i e_1 ?_
  refine lv_istore_n (lv' := [(2, .int x2_1), (1, .int 0), (0, .ref qE)]) hx hb dX3_spreadHope_8 rfl hl (by decide) rfl (fun ls hl => ?_)
  obtain ⟨x1_12, hopes_13, hlp, hf⟩ := bd2_el hf
  refine l_X3_spreadHope_b9 C0 hXs (fun x1_12 hopes_13 q9 H locs ls hP hD hS hl => ?_) N _ _ _ hlp H locs ls hP hD hS (lv_sub hl [2, 1, 0] rfl)
  cases q9
  refine lv_iload_n hx hb dX3_spreadHope_45 rfl (lv_at hl 0 rfl) ?_
  obtain ⟨h_14, hf⟩ := gd_el hf
  cases hf
  exact W.zret hx hb hr (bz_nar h_14) (fun t ht hW => ⟨⟨_, (), rfl, rfl, by rw [ht]; exact hP, va_K.moved hW.alike hK, hD⟩, hS.F ht⟩) hS.2.2 dX3_spreadHope_46
set_option maxHeartbeats 4000000 in
set_option maxRecDepth 100000 in
theorem c_X3_spreadHope (l : Launch) (dC : Nat → ClassId) (dI : Nat → Nat → Nat) (cyI cyJ cyZ : ClassId) (qE q_por q_confs q_near q_leads q_agrees q_answers q_hopes q_opens q_most q_ready : Nat) (sz N : Nat) (rRules : Int32) (rCount : Int32) (leads : Nat → Int32) (hopes : Nat → Int32) (r9 : Int32) (hopes9 : Nat → Int32) (hf : f_X3_spreadHope N rRules rCount leads hopes = some (r9, hopes9)) : Met l yX3_spreadHope wsX3_spreadHope rm_X3_spreadHope (Pz dC dI cyI cyJ cyZ [.ref qE] sz (w_X3_spreadHope cyI cyJ cyZ qE q_por q_confs q_near q_leads q_agrees q_answers q_hopes q_opens q_most q_ready rRules rCount leads hopes) X0) (Qzi dC dI cyI cyJ cyZ (va_A (w_X3_spreadHope cyI cyJ cyZ qE q_por q_confs q_near q_leads q_agrees q_answers q_hopes q_opens q_most q_ready rRules rCount leads hopes) sz) (w_X3_spreadHope cyI cyJ cyZ qE q_por q_confs q_near q_leads q_agrees q_answers q_hopes q_opens q_most q_ready rRules rCount leads hopes9) r9) 0 0 (va_A (w_X3_spreadHope cyI cyJ cyZ qE q_por q_confs q_near q_leads q_agrees q_answers q_hopes q_opens q_most q_ready rRules rCount leads hopes) sz) := by
  refine Met_of (cc := cX3_spreadHope) (maxL := 3) (ret := (some .boolean)) (by decide) rfl (Nat.le_of_ble_eq_true rfl) ?_
  intro p e s m args below meth c ls C0 hsz hXs hP hD hS hl
  exact t_X3_spreadHope C0 hXs hf s.heap [] ls hP hD hS hl
abbrev w_X3_allHope (cyI cyJ cyZ : ClassId) (qE q_por q_confs q_near q_leads q_agrees q_answers q_hopes q_opens q_most q_ready : Nat) (rRules : Int32) (rCount : Int32) (leads : Nat → Int32) (answers : Nat → Int32) (hopes : Nat → Int32) : va_W := [(qE, .inr (2, [.ref q_por, .ref q_confs, .ref q_near, .ref q_leads, .ref q_agrees, .ref q_answers, .ref q_hopes, .ref q_opens, .ref q_most, .ref q_ready, .int rRules, .int rCount])), (q_leads, .inl (cyI, 5544, .inl leads)), (q_answers, .inl (cyI, 462, .inl answers)), (q_hopes, .inl (cyZ, 462, .inl hopes))]
abbrev rm_X3_allHope : Room := { frames := 3, cells := 0, slots := 0, locals := 67 }
theorem hn_X3_allHope_X3 : ∀ w ∈ wsX30, w ∈ wsX3_allHope := fun _ h => List.mem_cons_of_mem _ (List.mem_append_right _ h)
def f_X3_allHope_j31 (N : Nat) (x1 : Int32) (y1 : Int32) (y2 : Int32) (rRules : Int32) (rCount : Int32) (leads : Nat → Int32) (answers : Nat → Int32) (hopes : Nat → Int32) : Option ((Int32 × (Nat → Int32)) ⊕ ((Nat → Int32))) :=
  gd (inb y1 462) (nm (upd hopes y1.toNatClampNeg (vp_nar .boolean y2)) (fun hopes_5 => nm (x1 + 1) (fun x1_6 => some (Sum.inl (x1_6, hopes_5)))))
set_option maxHeartbeats 4000000 in
set_option maxRecDepth 100000 in
theorem t_X3_allHope_j31 (C0 : Cx p s m args meth c cX3_allHope (some .boolean) 3 RX3 wsX3_allHope A dC dI cyI cyJ cyZ) {qE q_por q_confs q_near q_leads q_agrees q_answers q_hopes q_opens q_most q_ready : Nat} (hXs : X0 A s) {N : Nat} {x1 : Int32} {y1 : Int32} {y2 : Int32} {rRules : Int32} {rCount : Int32} {leads : Nat → Int32} {answers : Nat → Int32} {hopes : Nat → Int32} {r9 : Int32} {hopes9 : Nat → Int32} {r : (Int32 × (Nat → Int32)) ⊕ ((Nat → Int32))} (hf : f_X3_allHope_j31 N x1 y1 y2 rRules rCount leads answers hopes = some r) (Kh : ∀ (zx1 : Int32) (zhopes : Nat → Int32), r = Sum.inl (zx1, zhopes) → ∀ (H : Heap) (locs : List Loc) (ls : Array Slot), va_P (dC, dI) vwCl (w_X3_allHope cyI cyJ cyZ qE q_por q_confs q_near q_leads q_agrees q_answers q_hopes q_opens q_most q_ready rRules rCount leads answers zhopes) H → va_D A (w_X3_allHope cyI cyJ cyZ qE q_por q_confs q_near q_leads q_agrees q_answers q_hopes q_opens q_most q_ready rRules rCount leads answers zhopes) → va_S A s.heap H locs → lv_has ls 3 [(0, .ref qE), (1, .int zx1)] → W p l e rm_X3_allHope s m args below meth c H locs 0 0 (MQ below (Qzi dC dI cyI cyJ cyZ A (w_X3_allHope cyI cyJ cyZ qE q_por q_confs q_near q_leads q_agrees q_answers q_hopes q_opens q_most q_ready rRules rCount leads answers hopes9) r9) args s 0 0 A) (F0 m 2 ls [])) (Ke : ∀ (zhopes : Nat → Int32), r = Sum.inr zhopes → ∀ (H : Heap) (locs : List Loc) (ls : Array Slot), va_P (dC, dI) vwCl (w_X3_allHope cyI cyJ cyZ qE q_por q_confs q_near q_leads q_agrees q_answers q_hopes q_opens q_most q_ready rRules rCount leads answers zhopes) H → va_D A (w_X3_allHope cyI cyJ cyZ qE q_por q_confs q_near q_leads q_agrees q_answers q_hopes q_opens q_most q_ready rRules rCount leads answers zhopes) → va_S A s.heap H locs → lv_has ls 3 [(0, .ref qE)] → W p l e rm_X3_allHope s m args below meth c H locs 0 0 (MQ below (Qzi dC dI cyI cyJ cyZ A (w_X3_allHope cyI cyJ cyZ qE q_por q_confs q_near q_leads q_agrees q_answers q_hopes q_opens q_most q_ready rRules rCount leads answers hopes9) r9) args s 0 0 A) (F0 m 38 ls [])) (H : Heap) (locs : List Loc) (ls : Array Slot) (hP : va_P (dC, dI) vwCl (w_X3_allHope cyI cyJ cyZ qE q_por q_confs q_near q_leads q_agrees q_answers q_hopes q_opens q_most q_ready rRules rCount leads answers hopes) H) (hD : va_D A (w_X3_allHope cyI cyJ cyZ qE q_por q_confs q_near q_leads q_agrees q_answers q_hopes q_opens q_most q_ready rRules rCount leads answers hopes)) (hS : va_S A s.heap H locs) (hl : lv_has ls 3 [(0, .ref qE), (1, .int x1)]) : W p l e rm_X3_allHope s m args below meth c H locs 0 0 (MQ below (Qzi dC dI cyI cyJ cyZ A (w_X3_allHope cyI cyJ cyZ qE q_por q_confs q_near q_leads q_agrees q_answers q_hopes q_opens q_most q_ready rRules rCount leads answers hopes9) r9) args s 0 0 A) (F0 m 31 ls [.int y2, .int y1, .ref q_hopes]) := by
  have C1 := C0
  obtain ⟨hx, hb, hr, hlocks, hml, hown, hts, hA, hK⟩ := C1
  unfold f_X3_allHope_j31 at hf
  obtain ⟨h_4, hf⟩ := gd_el hf
  obtain ⟨hopes_5, e_5, hf⟩ := nm_el hf
  refine ast_z (w2 := (w_X3_allHope cyI cyJ cyZ qE q_por q_confs q_near q_leads q_agrees q_answers q_hopes q_opens q_most q_ready rRules rCount leads answers hopes_5)) hx hb hK hP hD hS 3 2 rfl rfl (inb_in h_4) e_5 rfl dX3_allHope_31 (fun H locs hP hD hS => ?_)
  obtain ⟨x1_6, e_6, hf⟩ := nm_el hf
  refine lv_iinc (v := x1_6) (lv' := [(1, .int x1_6), (0, .ref qE)]) hx hb dX3_allHope_32 hl (k := 1) rfl (by rw [e_6]; rfl) (by decide) rfl (fun ls hl => ?_)
  refine lv_goto (tgt := 2) hx hb dX3_allHope_35 (by decide) ?_
  exact Kh _ _ (Option.some.inj hf).symm H locs ls hP hD hS (lv_sub hl [1, 0] rfl)
def f_X3_allHope_b2 (N : Nat) (rRules : Int32) (rCount : Int32) (leads : Nat → Int32) (answers : Nat → Int32) (x1 : Int32) (hopes : Nat → Int32) : Option ((Int32 × (Nat → Int32)) ⊕ ((Nat → Int32))) :=
  (if rCount ≤ x1 then some (Sum.inr hopes) else gd (inb x1 462) ((if (answers x1.toNatClampNeg) = (-9) then f_X3_allHope_j31 N x1 x1 0 rRules rCount leads answers hopes else f_X3_allHope_j31 N x1 x1 1 rRules rCount leads answers hopes)))
set_option maxHeartbeats 4000000 in
set_option maxRecDepth 100000 in
theorem t_X3_allHope_b2 (C0 : Cx p s m args meth c cX3_allHope (some .boolean) 3 RX3 wsX3_allHope A dC dI cyI cyJ cyZ) {qE q_por q_confs q_near q_leads q_agrees q_answers q_hopes q_opens q_most q_ready : Nat} (hXs : X0 A s) {N : Nat} {rRules : Int32} {rCount : Int32} {leads : Nat → Int32} {answers : Nat → Int32} {x1 : Int32} {hopes : Nat → Int32} {r9 : Int32} {hopes9 : Nat → Int32} {r : (Int32 × (Nat → Int32)) ⊕ ((Nat → Int32))} (hf : f_X3_allHope_b2 N rRules rCount leads answers x1 hopes = some r) (Kh : ∀ (zx1 : Int32) (zhopes : Nat → Int32), r = Sum.inl (zx1, zhopes) → ∀ (H : Heap) (locs : List Loc) (ls : Array Slot), va_P (dC, dI) vwCl (w_X3_allHope cyI cyJ cyZ qE q_por q_confs q_near q_leads q_agrees q_answers q_hopes q_opens q_most q_ready rRules rCount leads answers zhopes) H → va_D A (w_X3_allHope cyI cyJ cyZ qE q_por q_confs q_near q_leads q_agrees q_answers q_hopes q_opens q_most q_ready rRules rCount leads answers zhopes) → va_S A s.heap H locs → lv_has ls 3 [(0, .ref qE), (1, .int zx1)] → W p l e rm_X3_allHope s m args below meth c H locs 0 0 (MQ below (Qzi dC dI cyI cyJ cyZ A (w_X3_allHope cyI cyJ cyZ qE q_por q_confs q_near q_leads q_agrees q_answers q_hopes q_opens q_most q_ready rRules rCount leads answers hopes9) r9) args s 0 0 A) (F0 m 2 ls [])) (Ke : ∀ (zhopes : Nat → Int32), r = Sum.inr zhopes → ∀ (H : Heap) (locs : List Loc) (ls : Array Slot), va_P (dC, dI) vwCl (w_X3_allHope cyI cyJ cyZ qE q_por q_confs q_near q_leads q_agrees q_answers q_hopes q_opens q_most q_ready rRules rCount leads answers zhopes) H → va_D A (w_X3_allHope cyI cyJ cyZ qE q_por q_confs q_near q_leads q_agrees q_answers q_hopes q_opens q_most q_ready rRules rCount leads answers zhopes) → va_S A s.heap H locs → lv_has ls 3 [(0, .ref qE)] → W p l e rm_X3_allHope s m args below meth c H locs 0 0 (MQ below (Qzi dC dI cyI cyJ cyZ A (w_X3_allHope cyI cyJ cyZ qE q_por q_confs q_near q_leads q_agrees q_answers q_hopes q_opens q_most q_ready rRules rCount leads answers hopes9) r9) args s 0 0 A) (F0 m 38 ls [])) (H : Heap) (locs : List Loc) (ls : Array Slot) (hP : va_P (dC, dI) vwCl (w_X3_allHope cyI cyJ cyZ qE q_por q_confs q_near q_leads q_agrees q_answers q_hopes q_opens q_most q_ready rRules rCount leads answers hopes) H) (hD : va_D A (w_X3_allHope cyI cyJ cyZ qE q_por q_confs q_near q_leads q_agrees q_answers q_hopes q_opens q_most q_ready rRules rCount leads answers hopes)) (hS : va_S A s.heap H locs) (hl : lv_has ls 3 [(0, .ref qE), (1, .int x1)]) : W p l e rm_X3_allHope s m args below meth c H locs 0 0 (MQ below (Qzi dC dI cyI cyJ cyZ A (w_X3_allHope cyI cyJ cyZ qE q_por q_confs q_near q_leads q_agrees q_answers q_hopes q_opens q_most q_ready rRules rCount leads answers hopes9) r9) args s 0 0 A) (F0 m 2 ls []) := by
  have C1 := C0
  obtain ⟨hx, hb, hr, hlocks, hml, hown, hts, hA, hK⟩ := C1
  unfold f_X3_allHope_b2 at hf
  refine lv_iload_n hx hb dX3_allHope_2 rfl (lv_at hl 1 rfl) ?_
  refine lv_aload_n hx hb dX3_allHope_3 rfl (lv_at hl 0 rfl) ?_
  refine va_get (D := (dC, dI)) (ci := 2) (v := .int rCount) (C := RX3) (T := TX3) (N := 12) hx hb hts hn_X3_allHope_X3 hown hK hP 0 rfl rfl 11 (by decide) (hts (.fieldLink RX3 60 "MetAgents$Reach" "count" "I") (List.mem_of_getElem? (i := 1) rfl)) (fun _ h9 => h9) rfl dX3_allHope_4 ?_
  refine lv_icmp_ge (tgt := 38) hx hb dX3_allHope_7 (by decide) (fun c_1 => ?_) (fun c_1 => ?_)
  · replace hf := it_t hf c_1
    exact Ke _ (Option.some.inj hf).symm H locs ls hP hD hS (lv_sub hl [0] rfl)
  · replace hf := it_f hf c_1
    refine lv_aload_n hx hb dX3_allHope_10 rfl (lv_at hl 0 rfl) ?_
    refine va_get (D := (dC, dI)) (ci := 2) (v := .ref q_hopes) (C := RX3) (T := TX3) (N := 12) hx hb hts hn_X3_allHope_X3 hown hK hP 0 rfl rfl 6 (by decide) (hts (.fieldLink RX3 32 "MetAgents$Reach" "hopes" "[Z") (List.mem_of_getElem? (i := 2) rfl)) (fun _ h9 => h9) rfl dX3_allHope_11 ?_
    refine lv_iload_n hx hb dX3_allHope_14 rfl (lv_at hl 1 rfl) ?_
    refine lv_aload_n hx hb dX3_allHope_15 rfl (lv_at hl 0 rfl) ?_
    refine va_get (D := (dC, dI)) (ci := 2) (v := .ref q_answers) (C := RX3) (T := TX3) (N := 12) hx hb hts hn_X3_allHope_X3 hown hK hP 0 rfl rfl 5 (by decide) (hts (.fieldLink RX3 29 "MetAgents$Reach" "answers" "[I") (List.mem_of_getElem? (i := 3) rfl)) (fun _ h9 => h9) rfl dX3_allHope_16 ?_
    refine lv_iload_n hx hb dX3_allHope_19 rfl (lv_at hl 1 rfl) ?_
    obtain ⟨h_2, hf⟩ := gd_el hf
    refine va_iald hx hb hK hP 2 0 rfl rfl (inb_in h_2) dX3_allHope_20 ?_
    refine lv_bipush (v := (-9)) hx hb dX3_allHope_21 (by decide) ?_
    refine lv_icmp_eq (tgt := 30) hx hb dX3_allHope_23 (by decide) (fun c_3 => ?_) (fun c_3 => ?_)
    · replace hf := it_t hf c_3
      refine lv_iconst (v := 0) hx hb dX3_allHope_30 (by decide) ?_
      exact t_X3_allHope_j31 C0 hXs hf Kh Ke H locs ls hP hD hS (lv_sub hl [0, 1] rfl)
    · replace hf := it_f hf c_3
      refine lv_iconst (v := 1) hx hb dX3_allHope_26 (by decide) ?_
      refine lv_goto (tgt := 31) hx hb dX3_allHope_27 (by decide) ?_
      exact t_X3_allHope_j31 C0 hXs hf Kh Ke H locs ls hP hD hS (lv_sub hl [0, 1] rfl)
set_option maxHeartbeats 4000000 in
set_option maxRecDepth 100000 in
theorem l_X3_allHope_b2 (C0 : Cx p s m args meth c cX3_allHope (some .boolean) 3 RX3 wsX3_allHope A dC dI cyI cyJ cyZ) {qE q_por q_confs q_near q_leads q_agrees q_answers q_hopes q_opens q_most q_ready : Nat} (hXs : X0 A s) {N : Nat} {rRules : Int32} {rCount : Int32} {leads : Nat → Int32} {answers : Nat → Int32} {r9 : Int32} {hopes9 : Nat → Int32} {z : (Nat → Int32)} (Ke : ∀ (zhopes : Nat → Int32), z = zhopes → ∀ (H : Heap) (locs : List Loc) (ls : Array Slot), va_P (dC, dI) vwCl (w_X3_allHope cyI cyJ cyZ qE q_por q_confs q_near q_leads q_agrees q_answers q_hopes q_opens q_most q_ready rRules rCount leads answers zhopes) H → va_D A (w_X3_allHope cyI cyJ cyZ qE q_por q_confs q_near q_leads q_agrees q_answers q_hopes q_opens q_most q_ready rRules rCount leads answers zhopes) → va_S A s.heap H locs → lv_has ls 3 [(0, .ref qE)] → W p l e rm_X3_allHope s m args below meth c H locs 0 0 (MQ below (Qzi dC dI cyI cyJ cyZ A (w_X3_allHope cyI cyJ cyZ qE q_por q_confs q_near q_leads q_agrees q_answers q_hopes q_opens q_most q_ready rRules rCount leads answers hopes9) r9) args s 0 0 A) (F0 m 38 ls [])) : ∀ (n9 : Nat) (x1 : Int32) (hopes : Nat → Int32), loopN (fun (w9 : Int32 × (Nat → Int32)) => f_X3_allHope_b2 N rRules rCount leads answers w9.1 w9.2) n9 (x1, hopes) = some z → ∀ (H : Heap) (locs : List Loc) (ls : Array Slot), va_P (dC, dI) vwCl (w_X3_allHope cyI cyJ cyZ qE q_por q_confs q_near q_leads q_agrees q_answers q_hopes q_opens q_most q_ready rRules rCount leads answers hopes) H → va_D A (w_X3_allHope cyI cyJ cyZ qE q_por q_confs q_near q_leads q_agrees q_answers q_hopes q_opens q_most q_ready rRules rCount leads answers hopes) → va_S A s.heap H locs → lv_has ls 3 [(0, .ref qE), (1, .int x1)] → W p l e rm_X3_allHope s m args below meth c H locs 0 0 (MQ below (Qzi dC dI cyI cyJ cyZ A (w_X3_allHope cyI cyJ cyZ qE q_por q_confs q_near q_leads q_agrees q_answers q_hopes q_opens q_most q_ready rRules rCount leads answers hopes9) r9) args s 0 0 A) (F0 m 2 ls []) := by
  intro n9
  induction n9 with
  | zero => intro _ _ h; cases h
  | succ n9 ih =>
    intro x1 hopes h H locs ls hP hD hS hl
    rcases loopN_el h with ⟨y9, h1, h2⟩ | h1
    · exact t_X3_allHope_b2 C0 hXs  h1 (fun zx1 zhopes q9 H locs ls hP hD hS hl => ih zx1 zhopes (by cases q9; exact h2) H locs ls hP hD hS hl) (fun _ q9 => by cases q9) H locs ls hP hD hS hl
    · exact t_X3_allHope_b2 C0 hXs  h1 (fun _ _ q9 => by cases q9) (fun ehopes q9 => Ke ehopes (by cases q9; rfl)) H locs ls hP hD hS hl
def f_X3_allHope_b42 (N : Nat) (rRules : Int32) (rCount : Int32) (leads : Nat → Int32) (answers : Nat → Int32) (x1 : Int32) (x2 : Int32) (hopes : Nat → Int32) : Option ((Int32 × Int32 × (Nat → Int32)) ⊕ ((Nat → Int32))) :=
  (if x1 = 0 then some (Sum.inr hopes) else (if 462 ≤ x2 then some (Sum.inr hopes) else bd2 (f_X3_spreadHope N rRules rCount leads hopes) (fun r_10 hopes_11 => nm (x2 + 1) (fun x2_12 => some (Sum.inl (r_10, x2_12, hopes_11))))))
set_option maxHeartbeats 4000000 in
set_option maxRecDepth 100000 in
theorem t_X3_allHope_b42 (C0 : Cx p s m args meth c cX3_allHope (some .boolean) 3 RX3 wsX3_allHope A dC dI cyI cyJ cyZ) {qE q_por q_confs q_near q_leads q_agrees q_answers q_hopes q_opens q_most q_ready : Nat} (hXs : X0 A s) {N : Nat} {rRules : Int32} {rCount : Int32} {leads : Nat → Int32} {answers : Nat → Int32} {x1 : Int32} {x2 : Int32} {hopes : Nat → Int32} {r9 : Int32} {hopes9 : Nat → Int32} {r : (Int32 × Int32 × (Nat → Int32)) ⊕ ((Nat → Int32))} (hf : f_X3_allHope_b42 N rRules rCount leads answers x1 x2 hopes = some r) (Kh : ∀ (zx1 : Int32) (zx2 : Int32) (zhopes : Nat → Int32), r = Sum.inl (zx1, zx2, zhopes) → ∀ (H : Heap) (locs : List Loc) (ls : Array Slot), va_P (dC, dI) vwCl (w_X3_allHope cyI cyJ cyZ qE q_por q_confs q_near q_leads q_agrees q_answers q_hopes q_opens q_most q_ready rRules rCount leads answers zhopes) H → va_D A (w_X3_allHope cyI cyJ cyZ qE q_por q_confs q_near q_leads q_agrees q_answers q_hopes q_opens q_most q_ready rRules rCount leads answers zhopes) → va_S A s.heap H locs → lv_has ls 3 [(0, .ref qE), (1, .int zx1), (2, .int zx2)] → W p l e rm_X3_allHope s m args below meth c H locs 0 0 (MQ below (Qzi dC dI cyI cyJ cyZ A (w_X3_allHope cyI cyJ cyZ qE q_por q_confs q_near q_leads q_agrees q_answers q_hopes q_opens q_most q_ready rRules rCount leads answers hopes9) r9) args s 0 0 A) (F0 m 42 ls [])) (Ke : ∀ (zhopes : Nat → Int32), r = Sum.inr zhopes → ∀ (H : Heap) (locs : List Loc) (ls : Array Slot), va_P (dC, dI) vwCl (w_X3_allHope cyI cyJ cyZ qE q_por q_confs q_near q_leads q_agrees q_answers q_hopes q_opens q_most q_ready rRules rCount leads answers zhopes) H → va_D A (w_X3_allHope cyI cyJ cyZ qE q_por q_confs q_near q_leads q_agrees q_answers q_hopes q_opens q_most q_ready rRules rCount leads answers zhopes) → va_S A s.heap H locs → lv_has ls 3 [(0, .ref qE)] → W p l e rm_X3_allHope s m args below meth c H locs 0 0 (MQ below (Qzi dC dI cyI cyJ cyZ A (w_X3_allHope cyI cyJ cyZ qE q_por q_confs q_near q_leads q_agrees q_answers q_hopes q_opens q_most q_ready rRules rCount leads answers hopes9) r9) args s 0 0 A) (F0 m 64 ls [])) (H : Heap) (locs : List Loc) (ls : Array Slot) (hP : va_P (dC, dI) vwCl (w_X3_allHope cyI cyJ cyZ qE q_por q_confs q_near q_leads q_agrees q_answers q_hopes q_opens q_most q_ready rRules rCount leads answers hopes) H) (hD : va_D A (w_X3_allHope cyI cyJ cyZ qE q_por q_confs q_near q_leads q_agrees q_answers q_hopes q_opens q_most q_ready rRules rCount leads answers hopes)) (hS : va_S A s.heap H locs) (hl : lv_has ls 3 [(0, .ref qE), (1, .int x1), (2, .int x2)]) : W p l e rm_X3_allHope s m args below meth c H locs 0 0 (MQ below (Qzi dC dI cyI cyJ cyZ A (w_X3_allHope cyI cyJ cyZ qE q_por q_confs q_near q_leads q_agrees q_answers q_hopes q_opens q_most q_ready rRules rCount leads answers hopes9) r9) args s 0 0 A) (F0 m 42 ls []) := by
  have C1 := C0
  obtain ⟨hx, hb, hr, hlocks, hml, hown, hts, hA, hK⟩ := C1
  unfold f_X3_allHope_b42 at hf
  refine lv_iload_n hx hb dX3_allHope_42 rfl (lv_at hl 1 rfl) ?_
  refine lv_if_eq (tgt := 64) hx hb dX3_allHope_43 (by decide) (fun c_8 => ?_) (fun c_8 => ?_)
  · replace hf := it_t hf c_8
    exact Ke _ (Option.some.inj hf).symm H locs ls hP hD hS (lv_sub hl [0] rfl)
  · replace hf := it_f hf c_8
    refine lv_iload_n hx hb dX3_allHope_46 rfl (lv_at hl 2 rfl) ?_
    refine lv_sipush (v := 462) hx hb dX3_allHope_47 (by decide) ?_
    refine lv_icmp_ge (tgt := 64) hx hb dX3_allHope_50 (by decide) (fun c_9 => ?_) (fun c_9 => ?_)
    · replace hf := it_t hf c_9
      exact Ke _ (Option.some.inj hf).symm H locs ls hP hD hS (lv_sub hl [0] rfl)
    · replace hf := it_f hf c_9
      refine lv_aload_n hx hb dX3_allHope_53 rfl (lv_at hl 0 rfl) ?_
      obtain ⟨r_10, hopes_11, hc, hf⟩ := bd2_el hf
      refine cl_i (wc := (w_X3_spreadHope cyI cyJ cyZ qE q_por q_confs q_near q_leads q_agrees q_answers q_hopes q_opens q_most q_ready rRules rCount leads hopes)) (wr := [(q_answers, .inl (cyI, 462, .inl answers))]) (w1 := (w_X3_spreadHope cyI cyJ cyZ qE q_por q_confs q_near q_leads q_agrees q_answers q_hopes q_opens q_most q_ready rRules rCount leads hopes_11)) (w2 := (w_X3_allHope cyI cyJ cyZ qE q_por q_confs q_near q_leads q_agrees q_answers q_hopes q_opens q_most q_ready rRules rCount leads answers hopes_11)) C0 (rn_V (As := []) (rest := []) (wc := (w_X3_spreadHope cyI cyJ cyZ qE q_por q_confs q_near q_leads q_agrees q_answers q_hopes q_opens q_most q_ready rRules rCount leads hopes)) (X := X0) C0 (c_X3_spreadHope l dC dI cyI cyJ cyZ qE q_por q_confs q_near q_leads q_agrees q_answers q_hopes q_opens q_most q_ready H.size N rRules rCount leads hopes r_10 hopes_11 hc) (cwV 0 hts gX3_allHope_X3_spreadHope rfl rfl rfl (by decide +kernel) ⟨Nat.le_of_ble_eq_true rfl, Nat.le_of_ble_eq_true rfl⟩) X0_car trivial hP hD hS [0, 1, 3] rfl rfl 0 2 rfl rfl rfl hl.1 rfl (Nat.le_of_ble_eq_true rfl) dX3_allHope_54 ⟨Nat.le_of_ble_eq_true rfl, Nat.le_of_ble_eq_true rfl⟩) hP hD hS [0, 1, 3] [2] [1, 2, 0, 3] rfl rfl rfl (by decide) rfl rfl (fun H locs hP hD hS => ?_)
      refine lv_istore_n (lv' := [(1, .int r_10), (0, .ref qE), (2, .int x2)]) hx hb dX3_allHope_57 rfl hl (by decide) rfl (fun ls hl => ?_)
      obtain ⟨x2_12, e_12, hf⟩ := nm_el hf
      refine lv_iinc (v := x2_12) (lv' := [(2, .int x2_12), (1, .int r_10), (0, .ref qE)]) hx hb dX3_allHope_58 hl (k := 2) rfl (by rw [e_12]; rfl) (by decide) rfl (fun ls hl => ?_)
      refine lv_goto (tgt := 42) hx hb dX3_allHope_61 (by decide) ?_
      exact Kh _ _ _ (Option.some.inj hf).symm H locs ls hP hD hS (lv_sub hl [2, 1, 0] rfl)
set_option maxHeartbeats 4000000 in
set_option maxRecDepth 100000 in
theorem l_X3_allHope_b42 (C0 : Cx p s m args meth c cX3_allHope (some .boolean) 3 RX3 wsX3_allHope A dC dI cyI cyJ cyZ) {qE q_por q_confs q_near q_leads q_agrees q_answers q_hopes q_opens q_most q_ready : Nat} (hXs : X0 A s) {N : Nat} {rRules : Int32} {rCount : Int32} {leads : Nat → Int32} {answers : Nat → Int32} {r9 : Int32} {hopes9 : Nat → Int32} {z : (Nat → Int32)} (Ke : ∀ (zhopes : Nat → Int32), z = zhopes → ∀ (H : Heap) (locs : List Loc) (ls : Array Slot), va_P (dC, dI) vwCl (w_X3_allHope cyI cyJ cyZ qE q_por q_confs q_near q_leads q_agrees q_answers q_hopes q_opens q_most q_ready rRules rCount leads answers zhopes) H → va_D A (w_X3_allHope cyI cyJ cyZ qE q_por q_confs q_near q_leads q_agrees q_answers q_hopes q_opens q_most q_ready rRules rCount leads answers zhopes) → va_S A s.heap H locs → lv_has ls 3 [(0, .ref qE)] → W p l e rm_X3_allHope s m args below meth c H locs 0 0 (MQ below (Qzi dC dI cyI cyJ cyZ A (w_X3_allHope cyI cyJ cyZ qE q_por q_confs q_near q_leads q_agrees q_answers q_hopes q_opens q_most q_ready rRules rCount leads answers hopes9) r9) args s 0 0 A) (F0 m 64 ls [])) : ∀ (n9 : Nat) (x1 : Int32) (x2 : Int32) (hopes : Nat → Int32), loopN (fun (w9 : Int32 × Int32 × (Nat → Int32)) => f_X3_allHope_b42 N rRules rCount leads answers w9.1 w9.2.1 w9.2.2) n9 (x1, x2, hopes) = some z → ∀ (H : Heap) (locs : List Loc) (ls : Array Slot), va_P (dC, dI) vwCl (w_X3_allHope cyI cyJ cyZ qE q_por q_confs q_near q_leads q_agrees q_answers q_hopes q_opens q_most q_ready rRules rCount leads answers hopes) H → va_D A (w_X3_allHope cyI cyJ cyZ qE q_por q_confs q_near q_leads q_agrees q_answers q_hopes q_opens q_most q_ready rRules rCount leads answers hopes) → va_S A s.heap H locs → lv_has ls 3 [(0, .ref qE), (1, .int x1), (2, .int x2)] → W p l e rm_X3_allHope s m args below meth c H locs 0 0 (MQ below (Qzi dC dI cyI cyJ cyZ A (w_X3_allHope cyI cyJ cyZ qE q_por q_confs q_near q_leads q_agrees q_answers q_hopes q_opens q_most q_ready rRules rCount leads answers hopes9) r9) args s 0 0 A) (F0 m 42 ls []) := by
  intro n9
  induction n9 with
  | zero => intro _ _ _ h; cases h
  | succ n9 ih =>
    intro x1 x2 hopes h H locs ls hP hD hS hl
    rcases loopN_el h with ⟨y9, h1, h2⟩ | h1
    · exact t_X3_allHope_b42 C0 hXs  h1 (fun zx1 zx2 zhopes q9 H locs ls hP hD hS hl => ih zx1 zx2 zhopes (by cases q9; exact h2) H locs ls hP hD hS hl) (fun _ q9 => by cases q9) H locs ls hP hD hS hl
    · exact t_X3_allHope_b42 C0 hXs  h1 (fun _ _ _ q9 => by cases q9) (fun ehopes q9 => Ke ehopes (by cases q9; rfl)) H locs ls hP hD hS hl
def f_X3_allHope_b66 (N : Nat) (rRules : Int32) (rCount : Int32) (leads : Nat → Int32) (answers : Nat → Int32) (hopes : Nat → Int32) (x2 : Int32) : Option ((Int32) ⊕ ((Int32 × (Nat → Int32)) ⊕ (Unit))) :=
  (if rCount ≤ x2 then some (Sum.inr (Sum.inr ())) else gd (inb x2 462) ((if (hopes x2.toNatClampNeg) = 0 then some (Sum.inr (Sum.inl (0, hopes))) else nm (x2 + 1) (fun x2_17 => some (Sum.inl x2_17)))))
set_option maxHeartbeats 4000000 in
set_option maxRecDepth 100000 in
theorem t_X3_allHope_b66 (C0 : Cx p s m args meth c cX3_allHope (some .boolean) 3 RX3 wsX3_allHope A dC dI cyI cyJ cyZ) {qE q_por q_confs q_near q_leads q_agrees q_answers q_hopes q_opens q_most q_ready : Nat} (hXs : X0 A s) {N : Nat} {rRules : Int32} {rCount : Int32} {leads : Nat → Int32} {answers : Nat → Int32} {hopes : Nat → Int32} {x2 : Int32} {r9 : Int32} {hopes9 : Nat → Int32} {r : (Int32) ⊕ ((Int32 × (Nat → Int32)) ⊕ (Unit))} (hf : f_X3_allHope_b66 N rRules rCount leads answers hopes x2 = some r) (Kh : ∀ (zx2 : Int32), r = Sum.inl zx2 → ∀ (H : Heap) (locs : List Loc) (ls : Array Slot), va_P (dC, dI) vwCl (w_X3_allHope cyI cyJ cyZ qE q_por q_confs q_near q_leads q_agrees q_answers q_hopes q_opens q_most q_ready rRules rCount leads answers hopes) H → va_D A (w_X3_allHope cyI cyJ cyZ qE q_por q_confs q_near q_leads q_agrees q_answers q_hopes q_opens q_most q_ready rRules rCount leads answers hopes) → va_S A s.heap H locs → lv_has ls 3 [(0, .ref qE), (2, .int zx2)] → W p l e rm_X3_allHope s m args below meth c H locs 0 0 (MQ below (Qzi dC dI cyI cyJ cyZ A (w_X3_allHope cyI cyJ cyZ qE q_por q_confs q_near q_leads q_agrees q_answers q_hopes q_opens q_most q_ready rRules rCount leads answers hopes9) r9) args s 0 0 A) (F0 m 66 ls [])) (Ke : r = Sum.inr (Sum.inr ()) → ∀ (H : Heap) (locs : List Loc) (ls : Array Slot), va_P (dC, dI) vwCl (w_X3_allHope cyI cyJ cyZ qE q_por q_confs q_near q_leads q_agrees q_answers q_hopes q_opens q_most q_ready rRules rCount leads answers hopes) H → va_D A (w_X3_allHope cyI cyJ cyZ qE q_por q_confs q_near q_leads q_agrees q_answers q_hopes q_opens q_most q_ready rRules rCount leads answers hopes) → va_S A s.heap H locs → lv_has ls 3 [] → W p l e rm_X3_allHope s m args below meth c H locs 0 0 (MQ below (Qzi dC dI cyI cyJ cyZ A (w_X3_allHope cyI cyJ cyZ qE q_por q_confs q_near q_leads q_agrees q_answers q_hopes q_opens q_most q_ready rRules rCount leads answers hopes9) r9) args s 0 0 A) (F0 m 91 ls [])) (Kr : ∀ x9 : Int32 × (Nat → Int32), r = Sum.inr (Sum.inl x9) → x9 = (r9, hopes9)) (H : Heap) (locs : List Loc) (ls : Array Slot) (hP : va_P (dC, dI) vwCl (w_X3_allHope cyI cyJ cyZ qE q_por q_confs q_near q_leads q_agrees q_answers q_hopes q_opens q_most q_ready rRules rCount leads answers hopes) H) (hD : va_D A (w_X3_allHope cyI cyJ cyZ qE q_por q_confs q_near q_leads q_agrees q_answers q_hopes q_opens q_most q_ready rRules rCount leads answers hopes)) (hS : va_S A s.heap H locs) (hl : lv_has ls 3 [(0, .ref qE), (2, .int x2)]) : W p l e rm_X3_allHope s m args below meth c H locs 0 0 (MQ below (Qzi dC dI cyI cyJ cyZ A (w_X3_allHope cyI cyJ cyZ qE q_por q_confs q_near q_leads q_agrees q_answers q_hopes q_opens q_most q_ready rRules rCount leads answers hopes9) r9) args s 0 0 A) (F0 m 66 ls []) := by
  have C1 := C0
  obtain ⟨hx, hb, hr, hlocks, hml, hown, hts, hA, hK⟩ := C1
  unfold f_X3_allHope_b66 at hf
  refine lv_iload_n hx hb dX3_allHope_66 rfl (lv_at hl 1 rfl) ?_
  refine lv_aload_n hx hb dX3_allHope_67 rfl (lv_at hl 0 rfl) ?_
  refine va_get (D := (dC, dI)) (ci := 2) (v := .int rCount) (C := RX3) (T := TX3) (N := 12) hx hb hts hn_X3_allHope_X3 hown hK hP 0 rfl rfl 11 (by decide) (hts (.fieldLink RX3 60 "MetAgents$Reach" "count" "I") (List.mem_of_getElem? (i := 1) rfl)) (fun _ h9 => h9) rfl dX3_allHope_68 ?_
  refine lv_icmp_ge (tgt := 91) hx hb dX3_allHope_71 (by decide) (fun c_14 => ?_) (fun c_14 => ?_)
  · replace hf := it_t hf c_14
    exact Ke  (Option.some.inj hf).symm H locs ls hP hD hS (lv_sub hl [] rfl)
  · replace hf := it_f hf c_14
    refine lv_aload_n hx hb dX3_allHope_74 rfl (lv_at hl 0 rfl) ?_
    refine va_get (D := (dC, dI)) (ci := 2) (v := .ref q_hopes) (C := RX3) (T := TX3) (N := 12) hx hb hts hn_X3_allHope_X3 hown hK hP 0 rfl rfl 6 (by decide) (hts (.fieldLink RX3 32 "MetAgents$Reach" "hopes" "[Z") (List.mem_of_getElem? (i := 2) rfl)) (fun _ h9 => h9) rfl dX3_allHope_75 ?_
    refine lv_iload_n hx hb dX3_allHope_78 rfl (lv_at hl 1 rfl) ?_
    obtain ⟨h_15, hf⟩ := gd_el hf
    refine va_zald hx hb hK hP 3 2 rfl rfl (inb_in h_15) dX3_allHope_79 ?_
    refine lv_if_ne (tgt := 85) hx hb dX3_allHope_80 (by decide) (fun c_16 => ?_) (fun c_16 => ?_)
    · replace hf := it_f hf c_16
      obtain ⟨x2_17, e_17, hf⟩ := nm_el hf
      refine lv_iinc (v := x2_17) (lv' := [(2, .int x2_17), (0, .ref qE)]) hx hb dX3_allHope_85 hl (k := 1) rfl (by rw [e_17]; rfl) (by decide) rfl (fun ls hl => ?_)
      refine lv_goto (tgt := 66) hx hb dX3_allHope_88 (by decide) ?_
      exact Kh _ (Option.some.inj hf).symm H locs ls hP hD hS (lv_sub hl [1, 0] rfl)
    · replace hf := it_t hf c_16
      refine lv_iconst (v := 0) hx hb dX3_allHope_83 (by decide) ?_
      cases Kr _ (Option.some.inj hf).symm
      exact W.zret hx hb hr rfl (fun t ht hW => ⟨⟨_, (), rfl, rfl, by rw [ht]; exact hP, va_K.moved hW.alike hK, hD⟩, hS.F ht⟩) hS.2.2 dX3_allHope_84
set_option maxHeartbeats 4000000 in
set_option maxRecDepth 100000 in
theorem l_X3_allHope_b66 (C0 : Cx p s m args meth c cX3_allHope (some .boolean) 3 RX3 wsX3_allHope A dC dI cyI cyJ cyZ) {qE q_por q_confs q_near q_leads q_agrees q_answers q_hopes q_opens q_most q_ready : Nat} (hXs : X0 A s) {N : Nat} {rRules : Int32} {rCount : Int32} {leads : Nat → Int32} {answers : Nat → Int32} {hopes : Nat → Int32} {r9 : Int32} {hopes9 : Nat → Int32} {z : (Int32 × (Nat → Int32)) ⊕ (Unit)} (Ke : z = Sum.inr () → ∀ (H : Heap) (locs : List Loc) (ls : Array Slot), va_P (dC, dI) vwCl (w_X3_allHope cyI cyJ cyZ qE q_por q_confs q_near q_leads q_agrees q_answers q_hopes q_opens q_most q_ready rRules rCount leads answers hopes) H → va_D A (w_X3_allHope cyI cyJ cyZ qE q_por q_confs q_near q_leads q_agrees q_answers q_hopes q_opens q_most q_ready rRules rCount leads answers hopes) → va_S A s.heap H locs → lv_has ls 3 [] → W p l e rm_X3_allHope s m args below meth c H locs 0 0 (MQ below (Qzi dC dI cyI cyJ cyZ A (w_X3_allHope cyI cyJ cyZ qE q_por q_confs q_near q_leads q_agrees q_answers q_hopes q_opens q_most q_ready rRules rCount leads answers hopes9) r9) args s 0 0 A) (F0 m 91 ls [])) (Kr : ∀ x9 : Int32 × (Nat → Int32), z = Sum.inl x9 → x9 = (r9, hopes9)) : ∀ (n9 : Nat) (x2 : Int32), loopN (fun (w9 : Int32) => f_X3_allHope_b66 N rRules rCount leads answers hopes w9) n9 x2 = some z → ∀ (H : Heap) (locs : List Loc) (ls : Array Slot), va_P (dC, dI) vwCl (w_X3_allHope cyI cyJ cyZ qE q_por q_confs q_near q_leads q_agrees q_answers q_hopes q_opens q_most q_ready rRules rCount leads answers hopes) H → va_D A (w_X3_allHope cyI cyJ cyZ qE q_por q_confs q_near q_leads q_agrees q_answers q_hopes q_opens q_most q_ready rRules rCount leads answers hopes) → va_S A s.heap H locs → lv_has ls 3 [(0, .ref qE), (2, .int x2)] → W p l e rm_X3_allHope s m args below meth c H locs 0 0 (MQ below (Qzi dC dI cyI cyJ cyZ A (w_X3_allHope cyI cyJ cyZ qE q_por q_confs q_near q_leads q_agrees q_answers q_hopes q_opens q_most q_ready rRules rCount leads answers hopes9) r9) args s 0 0 A) (F0 m 66 ls []) := by
  intro n9
  induction n9 with
  | zero => intro _ h; cases h
  | succ n9 ih =>
    intro x2 h H locs ls hP hD hS hl
    rcases loopN_el h with ⟨y9, h1, h2⟩ | h1
    · exact t_X3_allHope_b66 C0 hXs  h1 (fun zx2 q9 H locs ls hP hD hS hl => ih zx2 (by cases q9; exact h2) H locs ls hP hD hS hl) (fun  q9 => by cases q9) (fun _ q9 => by cases q9) H locs ls hP hD hS hl
    · exact t_X3_allHope_b66 C0 hXs  h1 (fun _ q9 => by cases q9) (fun  q9 => Ke  (by cases q9; rfl)) (fun x9 q9 => Kr x9 (by cases q9; rfl)) H locs ls hP hD hS hl
def f_X3_allHope (N : Nat) (rRules : Int32) (rCount : Int32) (leads : Nat → Int32) (answers : Nat → Int32) (hopes : Nat → Int32) : Option (Int32 × (Nat → Int32)) :=
  bd1 (loopN (fun (w9 : Int32 × (Nat → Int32)) => f_X3_allHope_b2 N rRules rCount leads answers w9.1 w9.2) N (0, hopes)) (fun hopes_7 => bd1 (loopN (fun (w9 : Int32 × Int32 × (Nat → Int32)) => f_X3_allHope_b42 N rRules rCount leads answers w9.1 w9.2.1 w9.2.2) N (1, 0, hopes_7)) (fun hopes_13 => bs0 (loopN (fun (w9 : Int32) => f_X3_allHope_b66 N rRules rCount leads answers hopes_13 w9) N 0) (fun x9 => some x9) (some (1, hopes_13))))
set_option maxHeartbeats 4000000 in
set_option maxRecDepth 100000 in
theorem t_X3_allHope (C0 : Cx p s m args meth c cX3_allHope (some .boolean) 3 RX3 wsX3_allHope A dC dI cyI cyJ cyZ) {qE q_por q_confs q_near q_leads q_agrees q_answers q_hopes q_opens q_most q_ready : Nat} (hXs : X0 A s) {N : Nat} {rRules : Int32} {rCount : Int32} {leads : Nat → Int32} {answers : Nat → Int32} {hopes : Nat → Int32} {r9 : Int32} {hopes9 : Nat → Int32} (hf : f_X3_allHope N rRules rCount leads answers hopes = some (r9, hopes9)) (H : Heap) (locs : List Loc) (ls : Array Slot) (hP : va_P (dC, dI) vwCl (w_X3_allHope cyI cyJ cyZ qE q_por q_confs q_near q_leads q_agrees q_answers q_hopes q_opens q_most q_ready rRules rCount leads answers hopes) H) (hD : va_D A (w_X3_allHope cyI cyJ cyZ qE q_por q_confs q_near q_leads q_agrees q_answers q_hopes q_opens q_most q_ready rRules rCount leads answers hopes)) (hS : va_S A s.heap H locs) (hl : lv_has ls 3 [(0, .ref qE)]) : W p l e rm_X3_allHope s m args below meth c H locs 0 0 (MQ below (Qzi dC dI cyI cyJ cyZ A (w_X3_allHope cyI cyJ cyZ qE q_por q_confs q_near q_leads q_agrees q_answers q_hopes q_opens q_most q_ready rRules rCount leads answers hopes9) r9) args s 0 0 A) (F0 m 0 ls []) := by
  have C1 := C0
  obtain ⟨hx, hb, hr, hlocks, hml, hown, hts, hA, hK⟩ := C1
  unfold f_X3_allHope at hf
  refine lv_iconst (v := 0) hx hb dX3_allHope_0 (by decide) ?_
  refine lv_istore_n (lv' := [(1, .int 0), (0, .ref qE)]) hx hb dX3_allHope_1 rfl hl (by decide) rfl (fun ls hl => ?_)
  obtain ⟨hopes_7, hlp, hf⟩ := bd1_el hf
  refine l_X3_allHope_b2 C0 hXs (fun hopes_7 q9 H locs ls hP hD hS hl => ?_) N _ _ hlp H locs ls hP hD hS (lv_sub hl [1, 0] rfl)
  cases q9
  refine lv_iconst (v := 1) hx hb dX3_allHope_38 (by decide) ?_
  refine lv_istore_n (lv' := [(1, .int 1), (0, .ref qE)]) hx hb dX3_allHope_39 rfl hl (by decide) rfl (fun ls hl => ?_)
  refine lv_iconst (v := 0) hx hb dX3_allHope_40 (by decide) ?_
  refine lv_istore_n (lv' := [(2, .int 0), (1, .int 1), (0, .ref qE)]) hx hb dX3_allHope_41 rfl hl (by decide) rfl (fun ls hl => ?_)
  obtain ⟨hopes_13, hlp, hf⟩ := bd1_el hf
  refine l_X3_allHope_b42 C0 hXs (fun hopes_13 q9 H locs ls hP hD hS hl => ?_) N _ _ _ hlp H locs ls hP hD hS (lv_sub hl [2, 1, 0] rfl)
  cases q9
  refine lv_iconst (v := 0) hx hb dX3_allHope_64 (by decide) ?_
  refine lv_istore_n (lv' := [(2, .int 0), (0, .ref qE)]) hx hb dX3_allHope_65 rfl hl (by decide) rfl (fun ls hl => ?_)
  rcases bs0_el hf with ⟨x9, hlp, hf⟩ | ⟨hlp, hf⟩
  · exact l_X3_allHope_b66 C0 hXs (fun q9 => by cases q9) (fun x9 q9 => by cases q9; exact Option.some.inj hf) N _ hlp H locs ls hP hD hS (lv_sub hl [1, 0] rfl)
  refine l_X3_allHope_b66 C0 hXs (fun q9 H locs ls hP hD hS hl => ?_) (fun _ q9 => by cases q9) N _ hlp H locs ls hP hD hS (lv_sub hl [1, 0] rfl)
  cases q9
  refine lv_iconst (v := 1) hx hb dX3_allHope_91 (by decide) ?_
  cases hf
  exact W.zret hx hb hr rfl (fun t ht hW => ⟨⟨_, (), rfl, rfl, by rw [ht]; exact hP, va_K.moved hW.alike hK, hD⟩, hS.F ht⟩) hS.2.2 dX3_allHope_92
set_option maxHeartbeats 4000000 in
set_option maxRecDepth 100000 in
theorem c_X3_allHope (l : Launch) (dC : Nat → ClassId) (dI : Nat → Nat → Nat) (cyI cyJ cyZ : ClassId) (qE q_por q_confs q_near q_leads q_agrees q_answers q_hopes q_opens q_most q_ready : Nat) (sz N : Nat) (rRules : Int32) (rCount : Int32) (leads : Nat → Int32) (answers : Nat → Int32) (hopes : Nat → Int32) (r9 : Int32) (hopes9 : Nat → Int32) (hf : f_X3_allHope N rRules rCount leads answers hopes = some (r9, hopes9)) : Met l yX3_allHope wsX3_allHope rm_X3_allHope (Pz dC dI cyI cyJ cyZ [.ref qE] sz (w_X3_allHope cyI cyJ cyZ qE q_por q_confs q_near q_leads q_agrees q_answers q_hopes q_opens q_most q_ready rRules rCount leads answers hopes) X0) (Qzi dC dI cyI cyJ cyZ (va_A (w_X3_allHope cyI cyJ cyZ qE q_por q_confs q_near q_leads q_agrees q_answers q_hopes q_opens q_most q_ready rRules rCount leads answers hopes) sz) (w_X3_allHope cyI cyJ cyZ qE q_por q_confs q_near q_leads q_agrees q_answers q_hopes q_opens q_most q_ready rRules rCount leads answers hopes9) r9) 0 0 (va_A (w_X3_allHope cyI cyJ cyZ qE q_por q_confs q_near q_leads q_agrees q_answers q_hopes q_opens q_most q_ready rRules rCount leads answers hopes) sz) := by
  refine Met_of (cc := cX3_allHope) (maxL := 3) (ret := (some .boolean)) (by decide) rfl (Nat.le_of_ble_eq_true rfl) ?_
  intro p e s m args below meth c ls C0 hsz hXs hP hD hS hl
  exact t_X3_allHope C0 hXs hf s.heap [] ls hP hD hS hl
abbrev w_X3_verdict (cyI cyJ cyZ : ClassId) (qE q_por q_confs q_near q_leads q_agrees q_answers q_hopes q_opens q_most q_ready : Nat) (rRules : Int32) (rCount : Int32) (leads : Nat → Int32) (answers : Nat → Int32) (hopes : Nat → Int32) : va_W := [(qE, .inr (2, [.ref q_por, .ref q_confs, .ref q_near, .ref q_leads, .ref q_agrees, .ref q_answers, .ref q_hopes, .ref q_opens, .ref q_most, .ref q_ready, .int rRules, .int rCount])), (q_leads, .inl (cyI, 5544, .inl leads)), (q_answers, .inl (cyI, 462, .inl answers)), (q_hopes, .inl (cyZ, 462, .inl hopes))]
abbrev rm_X3_verdict : Room := { frames := 4, cells := 0, slots := 0, locals := 89 }
def f_X3_verdict (N : Nat) (rRules : Int32) (rCount : Int32) (leads : Nat → Int32) (answers : Nat → Int32) (hopes : Nat → Int32) : Option (Int32 × (Nat → Int32)) :=
  bd1 (f_X3_onlyAnswer N rCount answers) (fun r_1 => (if r_1 = (-9) then some ((-9), hopes) else bd2 (f_X3_allHope N rRules rCount leads answers hopes) (fun r_3 hopes_4 => (if r_3 = 0 then some ((-9), hopes_4) else some (r_1, hopes_4)))))
set_option maxHeartbeats 4000000 in
set_option maxRecDepth 100000 in
theorem t_X3_verdict (C0 : Cx p s m args meth c cX3_verdict (some .int) 2 RX3 wsX3_verdict A dC dI cyI cyJ cyZ) {qE q_por q_confs q_near q_leads q_agrees q_answers q_hopes q_opens q_most q_ready : Nat} (hXs : X0 A s) {N : Nat} {rRules : Int32} {rCount : Int32} {leads : Nat → Int32} {answers : Nat → Int32} {hopes : Nat → Int32} {r9 : Int32} {hopes9 : Nat → Int32} (hf : f_X3_verdict N rRules rCount leads answers hopes = some (r9, hopes9)) (H : Heap) (locs : List Loc) (ls : Array Slot) (hP : va_P (dC, dI) vwCl (w_X3_verdict cyI cyJ cyZ qE q_por q_confs q_near q_leads q_agrees q_answers q_hopes q_opens q_most q_ready rRules rCount leads answers hopes) H) (hD : va_D A (w_X3_verdict cyI cyJ cyZ qE q_por q_confs q_near q_leads q_agrees q_answers q_hopes q_opens q_most q_ready rRules rCount leads answers hopes)) (hS : va_S A s.heap H locs) (hl : lv_has ls 2 [(0, .ref qE)]) : W p l e rm_X3_verdict s m args below meth c H locs 0 0 (MQ below (Qzi dC dI cyI cyJ cyZ A (w_X3_verdict cyI cyJ cyZ qE q_por q_confs q_near q_leads q_agrees q_answers q_hopes q_opens q_most q_ready rRules rCount leads answers hopes9) r9) args s 0 0 A) (F0 m 0 ls []) := by
  have C1 := C0
  obtain ⟨hx, hb, hr, hlocks, hml, hown, hts, hA, hK⟩ := C1
  unfold f_X3_verdict at hf
  refine lv_aload_n hx hb dX3_verdict_0 rfl (lv_at hl 0 rfl) ?_
  obtain ⟨r_1, hc, hf⟩ := bd1_el hf
  refine cl_i (wc := (w_X3_onlyAnswer cyI cyJ cyZ qE q_por q_confs q_near q_leads q_agrees q_answers q_hopes q_opens q_most q_ready rRules rCount answers)) (wr := [(q_leads, .inl (cyI, 5544, .inl leads)), (q_hopes, .inl (cyZ, 462, .inl hopes))]) (w1 := (w_X3_onlyAnswer cyI cyJ cyZ qE q_por q_confs q_near q_leads q_agrees q_answers q_hopes q_opens q_most q_ready rRules rCount answers)) (w2 := (w_X3_verdict cyI cyJ cyZ qE q_por q_confs q_near q_leads q_agrees q_answers q_hopes q_opens q_most q_ready rRules rCount leads answers hopes)) C0 (rn_V (As := []) (rest := []) (wc := (w_X3_onlyAnswer cyI cyJ cyZ qE q_por q_confs q_near q_leads q_agrees q_answers q_hopes q_opens q_most q_ready rRules rCount answers)) (X := X0) C0 (c_X3_onlyAnswer l dC dI cyI cyJ cyZ qE q_por q_confs q_near q_leads q_agrees q_answers q_hopes q_opens q_most q_ready H.size N rCount answers rRules r_1 hc) (cwV 0 hts gX3_verdict_X3_onlyAnswer rfl rfl rfl (by decide +kernel) ⟨Nat.le_of_ble_eq_true rfl, Nat.le_of_ble_eq_true rfl⟩) X0_car trivial hP hD hS [0, 2] rfl rfl 0 2 rfl rfl rfl hl.1 rfl (Nat.le_of_ble_eq_true rfl) dX3_verdict_1 ⟨Nat.le_of_ble_eq_true rfl, Nat.le_of_ble_eq_true rfl⟩) hP hD hS [0, 2] [1, 3] [2, 0, 3, 1] rfl rfl rfl (by decide) rfl rfl (fun H locs hP hD hS => ?_)
  refine lv_istore_n (lv' := [(1, .int r_1), (0, .ref qE)]) hx hb dX3_verdict_4 rfl hl (by decide) rfl (fun ls hl => ?_)
  refine lv_iload_n hx hb dX3_verdict_5 rfl (lv_at hl 0 rfl) ?_
  refine lv_bipush (v := (-9)) hx hb dX3_verdict_6 (by decide) ?_
  refine lv_icmp_eq (tgt := 22) hx hb dX3_verdict_8 (by decide) (fun c_2 => ?_) (fun c_2 => ?_)
  · replace hf := it_t hf c_2
    refine lv_bipush (v := (-9)) hx hb dX3_verdict_22 (by decide) ?_
    cases hf
    exact W.iret hx hb hr (fun t ht hW => ⟨⟨_, (), rfl, rfl, by rw [ht]; exact hP, va_K.moved hW.alike hK, hD⟩, hS.F ht⟩) hS.2.2 dX3_verdict_24
  · replace hf := it_f hf c_2
    refine lv_aload_n hx hb dX3_verdict_11 rfl (lv_at hl 1 rfl) ?_
    obtain ⟨r_3, hopes_4, hc, hf⟩ := bd2_el hf
    refine cl_i (wc := (w_X3_allHope cyI cyJ cyZ qE q_por q_confs q_near q_leads q_agrees q_answers q_hopes q_opens q_most q_ready rRules rCount leads answers hopes)) (wr := []) (w1 := (w_X3_allHope cyI cyJ cyZ qE q_por q_confs q_near q_leads q_agrees q_answers q_hopes q_opens q_most q_ready rRules rCount leads answers hopes_4)) (w2 := (w_X3_verdict cyI cyJ cyZ qE q_por q_confs q_near q_leads q_agrees q_answers q_hopes q_opens q_most q_ready rRules rCount leads answers hopes_4)) C0 (rn_V (As := []) (rest := []) (wc := (w_X3_allHope cyI cyJ cyZ qE q_por q_confs q_near q_leads q_agrees q_answers q_hopes q_opens q_most q_ready rRules rCount leads answers hopes)) (X := X0) C0 (c_X3_allHope l dC dI cyI cyJ cyZ qE q_por q_confs q_near q_leads q_agrees q_answers q_hopes q_opens q_most q_ready H.size N rRules rCount leads answers hopes r_3 hopes_4 hc) (cwV 0 hts gX3_verdict_X3_allHope rfl rfl rfl (by decide +kernel) ⟨Nat.le_of_ble_eq_true rfl, Nat.le_of_ble_eq_true rfl⟩) X0_car trivial hP hD hS [0, 1, 2, 3] rfl rfl 0 2 rfl rfl rfl hl.1 rfl (Nat.le_of_ble_eq_true rfl) dX3_verdict_12 ⟨Nat.le_of_ble_eq_true rfl, Nat.le_of_ble_eq_true rfl⟩) hP hD hS [0, 1, 2, 3] [] [0, 1, 2, 3] rfl rfl rfl (by decide) rfl rfl (fun H locs hP hD hS => ?_)
    refine lv_if_eq (tgt := 22) hx hb dX3_verdict_15 (by decide) (fun c_5 => ?_) (fun c_5 => ?_)
    · replace hf := it_t hf c_5
      refine lv_bipush (v := (-9)) hx hb dX3_verdict_22 (by decide) ?_
      cases hf
      exact W.iret hx hb hr (fun t ht hW => ⟨⟨_, (), rfl, rfl, by rw [ht]; exact hP, va_K.moved hW.alike hK, hD⟩, hS.F ht⟩) hS.2.2 dX3_verdict_24
    · replace hf := it_f hf c_5
      refine lv_iload_n hx hb dX3_verdict_18 rfl (lv_at hl 0 rfl) ?_
      refine lv_goto (tgt := 24) hx hb dX3_verdict_19 (by decide) ?_
      cases hf
      exact W.iret hx hb hr (fun t ht hW => ⟨⟨_, (), rfl, rfl, by rw [ht]; exact hP, va_K.moved hW.alike hK, hD⟩, hS.F ht⟩) hS.2.2 dX3_verdict_24
set_option maxHeartbeats 4000000 in
set_option maxRecDepth 100000 in
theorem c_X3_verdict (l : Launch) (dC : Nat → ClassId) (dI : Nat → Nat → Nat) (cyI cyJ cyZ : ClassId) (qE q_por q_confs q_near q_leads q_agrees q_answers q_hopes q_opens q_most q_ready : Nat) (sz N : Nat) (rRules : Int32) (rCount : Int32) (leads : Nat → Int32) (answers : Nat → Int32) (hopes : Nat → Int32) (r9 : Int32) (hopes9 : Nat → Int32) (hf : f_X3_verdict N rRules rCount leads answers hopes = some (r9, hopes9)) : Met l yX3_verdict wsX3_verdict rm_X3_verdict (Pz dC dI cyI cyJ cyZ [.ref qE] sz (w_X3_verdict cyI cyJ cyZ qE q_por q_confs q_near q_leads q_agrees q_answers q_hopes q_opens q_most q_ready rRules rCount leads answers hopes) X0) (Qzi dC dI cyI cyJ cyZ (va_A (w_X3_verdict cyI cyJ cyZ qE q_por q_confs q_near q_leads q_agrees q_answers q_hopes q_opens q_most q_ready rRules rCount leads answers hopes) sz) (w_X3_verdict cyI cyJ cyZ qE q_por q_confs q_near q_leads q_agrees q_answers q_hopes q_opens q_most q_ready rRules rCount leads answers hopes9) r9) 0 0 (va_A (w_X3_verdict cyI cyJ cyZ qE q_por q_confs q_near q_leads q_agrees q_answers q_hopes q_opens q_most q_ready rRules rCount leads answers hopes) sz) := by
  refine Met_of (cc := cX3_verdict) (maxL := 2) (ret := (some .int)) (by decide) rfl (Nat.le_of_ble_eq_true rfl) ?_
  intro p e s m args below meth c ls C0 hsz hXs hP hD hS hl
  exact t_X3_verdict C0 hXs hf s.heap [] ls hP hD hS hl
abbrev w_X3_fewestTillStable (cyI cyJ cyZ : ClassId) (qE q_por q_confs q_near q_leads q_agrees q_answers q_hopes q_opens q_most q_ready : Nat) (rRules : Int32) (rCount : Int32) (near : Nat → Int32) (answers : Nat → Int32) : va_W := [(qE, .inr (2, [.ref q_por, .ref q_confs, .ref q_near, .ref q_leads, .ref q_agrees, .ref q_answers, .ref q_hopes, .ref q_opens, .ref q_most, .ref q_ready, .int rRules, .int rCount])), (q_near, .inl (cyI, 462, .inl near)), (q_answers, .inl (cyI, 462, .inl answers))]
abbrev rm_X3_fewestTillStable : Room := { frames := 0, cells := 0, slots := 0, locals := 0 }
theorem hn_X3_fewestTillStable_X3 : ∀ w ∈ wsX30, w ∈ wsX3_fewestTillStable := fun _ h => List.mem_cons_of_mem _ (List.mem_append_right _ h)
def f_X3_fewestTillStable_b2 (N : Nat) (rCount : Int32) (near : Nat → Int32) (answers : Nat → Int32) (x1 : Int32) : Option ((Int32) ⊕ ((Int32) ⊕ (Unit))) :=
  (if rCount ≤ x1 then some (Sum.inr (Sum.inr ())) else gd (inb x1 462) ((if (answers x1.toNatClampNeg) = (-9) then nm (x1 + 1) (fun x1_4 => some (Sum.inl x1_4)) else gd (inb x1 462) (some (Sum.inr (Sum.inl (near x1.toNatClampNeg)))))))
set_option maxHeartbeats 4000000 in
set_option maxRecDepth 100000 in
theorem t_X3_fewestTillStable_b2 (C0 : Cx p s m args meth c cX3_fewestTillStable (some .int) 2 RX3 wsX3_fewestTillStable A dC dI cyI cyJ cyZ) {qE q_por q_confs q_near q_leads q_agrees q_answers q_hopes q_opens q_most q_ready : Nat} (hXs : X0 A s) {N : Nat} {rCount : Int32} {near : Nat → Int32} {answers : Nat → Int32} {x1 : Int32} {rRules : Int32} {r9 : Int32} {r : (Int32) ⊕ ((Int32) ⊕ (Unit))} (hf : f_X3_fewestTillStable_b2 N rCount near answers x1 = some r) (Kh : ∀ (zx1 : Int32), r = Sum.inl zx1 → ∀ (H : Heap) (locs : List Loc) (ls : Array Slot), va_P (dC, dI) vwCl (w_X3_fewestTillStable cyI cyJ cyZ qE q_por q_confs q_near q_leads q_agrees q_answers q_hopes q_opens q_most q_ready rRules rCount near answers) H → va_D A (w_X3_fewestTillStable cyI cyJ cyZ qE q_por q_confs q_near q_leads q_agrees q_answers q_hopes q_opens q_most q_ready rRules rCount near answers) → va_S A s.heap H locs → lv_has ls 2 [(0, .ref qE), (1, .int zx1)] → W p l e rm_X3_fewestTillStable s m args below meth c H locs 0 0 (MQ below (Qzi dC dI cyI cyJ cyZ A (w_X3_fewestTillStable cyI cyJ cyZ qE q_por q_confs q_near q_leads q_agrees q_answers q_hopes q_opens q_most q_ready rRules rCount near answers) r9) args s 0 0 A) (F0 m 2 ls [])) (Ke : r = Sum.inr (Sum.inr ()) → ∀ (H : Heap) (locs : List Loc) (ls : Array Slot), va_P (dC, dI) vwCl (w_X3_fewestTillStable cyI cyJ cyZ qE q_por q_confs q_near q_leads q_agrees q_answers q_hopes q_opens q_most q_ready rRules rCount near answers) H → va_D A (w_X3_fewestTillStable cyI cyJ cyZ qE q_por q_confs q_near q_leads q_agrees q_answers q_hopes q_opens q_most q_ready rRules rCount near answers) → va_S A s.heap H locs → lv_has ls 2 [] → W p l e rm_X3_fewestTillStable s m args below meth c H locs 0 0 (MQ below (Qzi dC dI cyI cyJ cyZ A (w_X3_fewestTillStable cyI cyJ cyZ qE q_por q_confs q_near q_leads q_agrees q_answers q_hopes q_opens q_most q_ready rRules rCount near answers) r9) args s 0 0 A) (F0 m 34 ls [])) (Kr : ∀ x9 : Int32, r = Sum.inr (Sum.inl x9) → x9 = r9) (H : Heap) (locs : List Loc) (ls : Array Slot) (hP : va_P (dC, dI) vwCl (w_X3_fewestTillStable cyI cyJ cyZ qE q_por q_confs q_near q_leads q_agrees q_answers q_hopes q_opens q_most q_ready rRules rCount near answers) H) (hD : va_D A (w_X3_fewestTillStable cyI cyJ cyZ qE q_por q_confs q_near q_leads q_agrees q_answers q_hopes q_opens q_most q_ready rRules rCount near answers)) (hS : va_S A s.heap H locs) (hl : lv_has ls 2 [(0, .ref qE), (1, .int x1)]) : W p l e rm_X3_fewestTillStable s m args below meth c H locs 0 0 (MQ below (Qzi dC dI cyI cyJ cyZ A (w_X3_fewestTillStable cyI cyJ cyZ qE q_por q_confs q_near q_leads q_agrees q_answers q_hopes q_opens q_most q_ready rRules rCount near answers) r9) args s 0 0 A) (F0 m 2 ls []) := by
  have C1 := C0
  obtain ⟨hx, hb, hr, hlocks, hml, hown, hts, hA, hK⟩ := C1
  unfold f_X3_fewestTillStable_b2 at hf
  refine lv_iload_n hx hb dX3_fewestTillStable_2 rfl (lv_at hl 1 rfl) ?_
  refine lv_aload_n hx hb dX3_fewestTillStable_3 rfl (lv_at hl 0 rfl) ?_
  refine va_get (D := (dC, dI)) (ci := 2) (v := .int rCount) (C := RX3) (T := TX3) (N := 12) hx hb hts hn_X3_fewestTillStable_X3 hown hK hP 0 rfl rfl 11 (by decide) (hts (.fieldLink RX3 60 "MetAgents$Reach" "count" "I") (List.mem_of_getElem? (i := 1) rfl)) (fun _ h9 => h9) rfl dX3_fewestTillStable_4 ?_
  refine lv_icmp_ge (tgt := 34) hx hb dX3_fewestTillStable_7 (by decide) (fun c_1 => ?_) (fun c_1 => ?_)
  · replace hf := it_t hf c_1
    exact Ke  (Option.some.inj hf).symm H locs ls hP hD hS (lv_sub hl [] rfl)
  · replace hf := it_f hf c_1
    refine lv_aload_n hx hb dX3_fewestTillStable_10 rfl (lv_at hl 0 rfl) ?_
    refine va_get (D := (dC, dI)) (ci := 2) (v := .ref q_answers) (C := RX3) (T := TX3) (N := 12) hx hb hts hn_X3_fewestTillStable_X3 hown hK hP 0 rfl rfl 5 (by decide) (hts (.fieldLink RX3 29 "MetAgents$Reach" "answers" "[I") (List.mem_of_getElem? (i := 2) rfl)) (fun _ h9 => h9) rfl dX3_fewestTillStable_11 ?_
    refine lv_iload_n hx hb dX3_fewestTillStable_14 rfl (lv_at hl 1 rfl) ?_
    obtain ⟨h_2, hf⟩ := gd_el hf
    refine va_iald hx hb hK hP 2 0 rfl rfl (inb_in h_2) dX3_fewestTillStable_15 ?_
    refine lv_bipush (v := (-9)) hx hb dX3_fewestTillStable_16 (by decide) ?_
    refine lv_icmp_eq (tgt := 28) hx hb dX3_fewestTillStable_18 (by decide) (fun c_3 => ?_) (fun c_3 => ?_)
    · replace hf := it_t hf c_3
      obtain ⟨x1_4, e_4, hf⟩ := nm_el hf
      refine lv_iinc (v := x1_4) (lv' := [(1, .int x1_4), (0, .ref qE)]) hx hb dX3_fewestTillStable_28 hl (k := 1) rfl (by rw [e_4]; rfl) (by decide) rfl (fun ls hl => ?_)
      refine lv_goto (tgt := 2) hx hb dX3_fewestTillStable_31 (by decide) ?_
      exact Kh _ (Option.some.inj hf).symm H locs ls hP hD hS (lv_sub hl [1, 0] rfl)
    · replace hf := it_f hf c_3
      refine lv_aload_n hx hb dX3_fewestTillStable_21 rfl (lv_at hl 0 rfl) ?_
      refine va_get (D := (dC, dI)) (ci := 2) (v := .ref q_near) (C := RX3) (T := TX3) (N := 12) hx hb hts hn_X3_fewestTillStable_X3 hown hK hP 0 rfl rfl 2 (by decide) (hts (.fieldLink RX3 20 "MetAgents$Reach" "nearness" "[I") (List.mem_of_getElem? (i := 3) rfl)) (fun _ h9 => h9) rfl dX3_fewestTillStable_22 ?_
      refine lv_iload_n hx hb dX3_fewestTillStable_25 rfl (lv_at hl 1 rfl) ?_
      obtain ⟨h_5, hf⟩ := gd_el hf
      refine va_iald hx hb hK hP 1 0 rfl rfl (inb_in h_5) dX3_fewestTillStable_26 ?_
      cases Kr _ (Option.some.inj hf).symm
      exact W.iret hx hb hr (fun t ht hW => ⟨⟨_, (), rfl, rfl, by rw [ht]; exact hP, va_K.moved hW.alike hK, hD⟩, hS.F ht⟩) hS.2.2 dX3_fewestTillStable_27
set_option maxHeartbeats 4000000 in
set_option maxRecDepth 100000 in
theorem l_X3_fewestTillStable_b2 (C0 : Cx p s m args meth c cX3_fewestTillStable (some .int) 2 RX3 wsX3_fewestTillStable A dC dI cyI cyJ cyZ) {qE q_por q_confs q_near q_leads q_agrees q_answers q_hopes q_opens q_most q_ready : Nat} (hXs : X0 A s) {N : Nat} {rCount : Int32} {near : Nat → Int32} {answers : Nat → Int32} {rRules : Int32} {r9 : Int32} {z : (Int32) ⊕ (Unit)} (Ke : z = Sum.inr () → ∀ (H : Heap) (locs : List Loc) (ls : Array Slot), va_P (dC, dI) vwCl (w_X3_fewestTillStable cyI cyJ cyZ qE q_por q_confs q_near q_leads q_agrees q_answers q_hopes q_opens q_most q_ready rRules rCount near answers) H → va_D A (w_X3_fewestTillStable cyI cyJ cyZ qE q_por q_confs q_near q_leads q_agrees q_answers q_hopes q_opens q_most q_ready rRules rCount near answers) → va_S A s.heap H locs → lv_has ls 2 [] → W p l e rm_X3_fewestTillStable s m args below meth c H locs 0 0 (MQ below (Qzi dC dI cyI cyJ cyZ A (w_X3_fewestTillStable cyI cyJ cyZ qE q_por q_confs q_near q_leads q_agrees q_answers q_hopes q_opens q_most q_ready rRules rCount near answers) r9) args s 0 0 A) (F0 m 34 ls [])) (Kr : ∀ x9 : Int32, z = Sum.inl x9 → x9 = r9) : ∀ (n9 : Nat) (x1 : Int32), loopN (fun (w9 : Int32) => f_X3_fewestTillStable_b2 N rCount near answers w9) n9 x1 = some z → ∀ (H : Heap) (locs : List Loc) (ls : Array Slot), va_P (dC, dI) vwCl (w_X3_fewestTillStable cyI cyJ cyZ qE q_por q_confs q_near q_leads q_agrees q_answers q_hopes q_opens q_most q_ready rRules rCount near answers) H → va_D A (w_X3_fewestTillStable cyI cyJ cyZ qE q_por q_confs q_near q_leads q_agrees q_answers q_hopes q_opens q_most q_ready rRules rCount near answers) → va_S A s.heap H locs → lv_has ls 2 [(0, .ref qE), (1, .int x1)] → W p l e rm_X3_fewestTillStable s m args below meth c H locs 0 0 (MQ below (Qzi dC dI cyI cyJ cyZ A (w_X3_fewestTillStable cyI cyJ cyZ qE q_por q_confs q_near q_leads q_agrees q_answers q_hopes q_opens q_most q_ready rRules rCount near answers) r9) args s 0 0 A) (F0 m 2 ls []) := by
  intro n9
  induction n9 with
  | zero => intro _ h; cases h
  | succ n9 ih =>
    intro x1 h H locs ls hP hD hS hl
    rcases loopN_el h with ⟨y9, h1, h2⟩ | h1
    · exact t_X3_fewestTillStable_b2 C0 hXs  h1 (fun zx1 q9 H locs ls hP hD hS hl => ih zx1 (by cases q9; exact h2) H locs ls hP hD hS hl) (fun  q9 => by cases q9) (fun _ q9 => by cases q9) H locs ls hP hD hS hl
    · exact t_X3_fewestTillStable_b2 C0 hXs  h1 (fun _ q9 => by cases q9) (fun  q9 => Ke  (by cases q9; rfl)) (fun x9 q9 => Kr x9 (by cases q9; rfl)) H locs ls hP hD hS hl
def f_X3_fewestTillStable (N : Nat) (rCount : Int32) (near : Nat → Int32) (answers : Nat → Int32) : Option (Int32) :=
  bs0 (loopN (fun (w9 : Int32) => f_X3_fewestTillStable_b2 N rCount near answers w9) N 0) (fun x9 => some x9) (some ((-9)))
set_option maxHeartbeats 4000000 in
set_option maxRecDepth 100000 in
theorem t_X3_fewestTillStable (C0 : Cx p s m args meth c cX3_fewestTillStable (some .int) 2 RX3 wsX3_fewestTillStable A dC dI cyI cyJ cyZ) {qE q_por q_confs q_near q_leads q_agrees q_answers q_hopes q_opens q_most q_ready : Nat} (hXs : X0 A s) {N : Nat} {rCount : Int32} {near : Nat → Int32} {answers : Nat → Int32} {rRules : Int32} {r9 : Int32} (hf : f_X3_fewestTillStable N rCount near answers = some r9) (H : Heap) (locs : List Loc) (ls : Array Slot) (hP : va_P (dC, dI) vwCl (w_X3_fewestTillStable cyI cyJ cyZ qE q_por q_confs q_near q_leads q_agrees q_answers q_hopes q_opens q_most q_ready rRules rCount near answers) H) (hD : va_D A (w_X3_fewestTillStable cyI cyJ cyZ qE q_por q_confs q_near q_leads q_agrees q_answers q_hopes q_opens q_most q_ready rRules rCount near answers)) (hS : va_S A s.heap H locs) (hl : lv_has ls 2 [(0, .ref qE)]) : W p l e rm_X3_fewestTillStable s m args below meth c H locs 0 0 (MQ below (Qzi dC dI cyI cyJ cyZ A (w_X3_fewestTillStable cyI cyJ cyZ qE q_por q_confs q_near q_leads q_agrees q_answers q_hopes q_opens q_most q_ready rRules rCount near answers) r9) args s 0 0 A) (F0 m 0 ls []) := by
  have C1 := C0
  obtain ⟨hx, hb, hr, hlocks, hml, hown, hts, hA, hK⟩ := C1
  unfold f_X3_fewestTillStable at hf
  refine lv_iconst (v := 0) hx hb dX3_fewestTillStable_0 (by decide) ?_
  refine lv_istore_n (lv' := [(1, .int 0), (0, .ref qE)]) hx hb dX3_fewestTillStable_1 rfl hl (by decide) rfl (fun ls hl => ?_)
  rcases bs0_el hf with ⟨x9, hlp, hf⟩ | ⟨hlp, hf⟩
  · exact l_X3_fewestTillStable_b2 C0 hXs (fun q9 => by cases q9) (fun x9 q9 => by cases q9; exact Option.some.inj hf) N _ hlp H locs ls hP hD hS (lv_sub hl [1, 0] rfl)
  refine l_X3_fewestTillStable_b2 C0 hXs (fun q9 H locs ls hP hD hS hl => ?_) (fun _ q9 => by cases q9) N _ hlp H locs ls hP hD hS (lv_sub hl [1, 0] rfl)
  cases q9
  refine lv_bipush (v := (-9)) hx hb dX3_fewestTillStable_34 (by decide) ?_
  cases hf
  exact W.iret hx hb hr (fun t ht hW => ⟨⟨_, (), rfl, rfl, by rw [ht]; exact hP, va_K.moved hW.alike hK, hD⟩, hS.F ht⟩) hS.2.2 dX3_fewestTillStable_36
set_option maxHeartbeats 4000000 in
set_option maxRecDepth 100000 in
theorem c_X3_fewestTillStable (l : Launch) (dC : Nat → ClassId) (dI : Nat → Nat → Nat) (cyI cyJ cyZ : ClassId) (qE q_por q_confs q_near q_leads q_agrees q_answers q_hopes q_opens q_most q_ready : Nat) (sz N : Nat) (rCount : Int32) (near : Nat → Int32) (answers : Nat → Int32) (rRules : Int32) (r9 : Int32) (hf : f_X3_fewestTillStable N rCount near answers = some r9) : Met l yX3_fewestTillStable wsX3_fewestTillStable rm_X3_fewestTillStable (Pz dC dI cyI cyJ cyZ [.ref qE] sz (w_X3_fewestTillStable cyI cyJ cyZ qE q_por q_confs q_near q_leads q_agrees q_answers q_hopes q_opens q_most q_ready rRules rCount near answers) X0) (Qzi dC dI cyI cyJ cyZ (va_A (w_X3_fewestTillStable cyI cyJ cyZ qE q_por q_confs q_near q_leads q_agrees q_answers q_hopes q_opens q_most q_ready rRules rCount near answers) sz) (w_X3_fewestTillStable cyI cyJ cyZ qE q_por q_confs q_near q_leads q_agrees q_answers q_hopes q_opens q_most q_ready rRules rCount near answers) r9) 0 0 (va_A (w_X3_fewestTillStable cyI cyJ cyZ qE q_por q_confs q_near q_leads q_agrees q_answers q_hopes q_opens q_most q_ready rRules rCount near answers) sz) := by
  refine Met_of (cc := cX3_fewestTillStable) (maxL := 2) (ret := (some .int)) (by decide) rfl (Nat.le_of_ble_eq_true rfl) ?_
  intro p e s m args below meth c ls C0 hsz hXs hP hD hS hl
  exact t_X3_fewestTillStable C0 hXs hf s.heap [] ls hP hD hS hl
abbrev w_X3_countOpen (cyI cyJ cyZ : ClassId) (qE q_por q_confs q_near q_leads q_agrees q_answers q_hopes q_opens q_most q_ready : Nat) (rRules : Int32) (rCount : Int32) (leads : Nat → Int32) (opens : Nat → Int32) (most : Nat → Int32) : va_W := [(qE, .inr (2, [.ref q_por, .ref q_confs, .ref q_near, .ref q_leads, .ref q_agrees, .ref q_answers, .ref q_hopes, .ref q_opens, .ref q_most, .ref q_ready, .int rRules, .int rCount])), (q_leads, .inl (cyI, 5544, .inl leads)), (q_opens, .inl (cyI, 462, .inl opens)), (q_most, .inl (cyI, 462, .inl most))]
abbrev rm_X3_countOpen : Room := { frames := 1, cells := 0, slots := 0, locals := 23 }
theorem hn_X3_countOpen_X3 : ∀ w ∈ wsX30, w ∈ wsX3_countOpen := fun _ h => List.mem_cons_of_mem _ (List.mem_append_right _ h)
def f_X3_countOpen_b28 (N : Nat) (x1 : Int32) (rRules : Int32) (rCount : Int32) (leads : Nat → Int32) (most : Nat → Int32) (x2 : Int32) (opens : Nat → Int32) : Option ((Int32 × (Nat → Int32)) ⊕ ((Nat → Int32))) :=
  (if rRules ≤ x2 then some (Sum.inr opens) else bd1 (f_X3_leadAt N x1 x2 leads) (fun r_5 => (if r_5 < 0 then nm (x2 + 1) (fun x2_7 => some (Sum.inl (x2_7, opens))) else gd (inb r_5 462) (gd (inb r_5 462) (nm (upd opens r_5.toNatClampNeg ((opens r_5.toNatClampNeg) + 1)) (fun opens_10 => nm (x2 + 1) (fun x2_11 => some (Sum.inl (x2_11, opens_10)))))))))
set_option maxHeartbeats 4000000 in
set_option maxRecDepth 100000 in
theorem t_X3_countOpen_b28 (C0 : Cx p s m args meth c cX3_countOpen none 4 RX3 wsX3_countOpen A dC dI cyI cyJ cyZ) {qE q_por q_confs q_near q_leads q_agrees q_answers q_hopes q_opens q_most q_ready : Nat} (hXs : X0 A s) {N : Nat} {x1 : Int32} {rRules : Int32} {rCount : Int32} {leads : Nat → Int32} {most : Nat → Int32} {x2 : Int32} {opens : Nat → Int32} {opens9 : Nat → Int32} {most9 : Nat → Int32} {r : (Int32 × (Nat → Int32)) ⊕ ((Nat → Int32))} (hf : f_X3_countOpen_b28 N x1 rRules rCount leads most x2 opens = some r) (Kh : ∀ (zx2 : Int32) (zopens : Nat → Int32), r = Sum.inl (zx2, zopens) → ∀ (H : Heap) (locs : List Loc) (ls : Array Slot), va_P (dC, dI) vwCl (w_X3_countOpen cyI cyJ cyZ qE q_por q_confs q_near q_leads q_agrees q_answers q_hopes q_opens q_most q_ready rRules rCount leads zopens most) H → va_D A (w_X3_countOpen cyI cyJ cyZ qE q_por q_confs q_near q_leads q_agrees q_answers q_hopes q_opens q_most q_ready rRules rCount leads zopens most) → va_S A s.heap H locs → lv_has ls 4 [(0, .ref qE), (1, .int x1), (2, .int zx2)] → W p l e rm_X3_countOpen s m args below meth c H locs 0 0 (MQ below (Qzv dC dI cyI cyJ cyZ A (w_X3_countOpen cyI cyJ cyZ qE q_por q_confs q_near q_leads q_agrees q_answers q_hopes q_opens q_most q_ready rRules rCount leads opens9 most9)) args s 0 0 A) (F0 m 28 ls [])) (Ke : ∀ (zopens : Nat → Int32), r = Sum.inr zopens → ∀ (H : Heap) (locs : List Loc) (ls : Array Slot), va_P (dC, dI) vwCl (w_X3_countOpen cyI cyJ cyZ qE q_por q_confs q_near q_leads q_agrees q_answers q_hopes q_opens q_most q_ready rRules rCount leads zopens most) H → va_D A (w_X3_countOpen cyI cyJ cyZ qE q_por q_confs q_near q_leads q_agrees q_answers q_hopes q_opens q_most q_ready rRules rCount leads zopens most) → va_S A s.heap H locs → lv_has ls 4 [(0, .ref qE), (1, .int x1)] → W p l e rm_X3_countOpen s m args below meth c H locs 0 0 (MQ below (Qzv dC dI cyI cyJ cyZ A (w_X3_countOpen cyI cyJ cyZ qE q_por q_confs q_near q_leads q_agrees q_answers q_hopes q_opens q_most q_ready rRules rCount leads opens9 most9)) args s 0 0 A) (F0 m 63 ls [])) (H : Heap) (locs : List Loc) (ls : Array Slot) (hP : va_P (dC, dI) vwCl (w_X3_countOpen cyI cyJ cyZ qE q_por q_confs q_near q_leads q_agrees q_answers q_hopes q_opens q_most q_ready rRules rCount leads opens most) H) (hD : va_D A (w_X3_countOpen cyI cyJ cyZ qE q_por q_confs q_near q_leads q_agrees q_answers q_hopes q_opens q_most q_ready rRules rCount leads opens most)) (hS : va_S A s.heap H locs) (hl : lv_has ls 4 [(0, .ref qE), (1, .int x1), (2, .int x2)]) : W p l e rm_X3_countOpen s m args below meth c H locs 0 0 (MQ below (Qzv dC dI cyI cyJ cyZ A (w_X3_countOpen cyI cyJ cyZ qE q_por q_confs q_near q_leads q_agrees q_answers q_hopes q_opens q_most q_ready rRules rCount leads opens9 most9)) args s 0 0 A) (F0 m 28 ls []) := by
  have C1 := C0
  obtain ⟨hx, hb, hr, hlocks, hml, hown, hts, hA, hK⟩ := C1
  unfold f_X3_countOpen_b28 at hf
  refine lv_iload_n hx hb dX3_countOpen_28 rfl (lv_at hl 2 rfl) ?_
  refine lv_aload_n hx hb dX3_countOpen_29 rfl (lv_at hl 0 rfl) ?_
  refine va_get (D := (dC, dI)) (ci := 2) (v := .int rRules) (C := RX3) (T := TX3) (N := 12) hx hb hts hn_X3_countOpen_X3 hown hK hP 0 rfl rfl 10 (by decide) (hts (.fieldLink RX3 57 "MetAgents$Reach" "rules" "I") (List.mem_of_getElem? (i := 4) rfl)) (fun _ h9 => h9) rfl dX3_countOpen_30 ?_
  refine lv_icmp_ge (tgt := 63) hx hb dX3_countOpen_33 (by decide) (fun c_4 => ?_) (fun c_4 => ?_)
  · replace hf := it_t hf c_4
    exact Ke _ (Option.some.inj hf).symm H locs ls hP hD hS (lv_sub hl [0, 1] rfl)
  · replace hf := it_f hf c_4
    refine lv_aload_n hx hb dX3_countOpen_36 rfl (lv_at hl 0 rfl) ?_
    refine lv_iload_n hx hb dX3_countOpen_37 rfl (lv_at hl 1 rfl) ?_
    refine lv_iload_n hx hb dX3_countOpen_38 rfl (lv_at hl 2 rfl) ?_
    obtain ⟨r_5, hc, hf⟩ := bd1_el hf
    refine cl_i (wc := (w_X3_leadAt cyI cyJ cyZ qE q_por q_confs q_near q_leads q_agrees q_answers q_hopes q_opens q_most q_ready rRules rCount leads)) (wr := [(q_opens, .inl (cyI, 462, .inl opens)), (q_most, .inl (cyI, 462, .inl most))]) (w1 := (w_X3_leadAt cyI cyJ cyZ qE q_por q_confs q_near q_leads q_agrees q_answers q_hopes q_opens q_most q_ready rRules rCount leads)) (w2 := (w_X3_countOpen cyI cyJ cyZ qE q_por q_confs q_near q_leads q_agrees q_answers q_hopes q_opens q_most q_ready rRules rCount leads opens most)) C0 (rn_V (As := [.int x1, .int x2]) (rest := []) (wc := (w_X3_leadAt cyI cyJ cyZ qE q_por q_confs q_near q_leads q_agrees q_answers q_hopes q_opens q_most q_ready rRules rCount leads)) (X := X0) C0 (c_X3_leadAt l dC dI cyI cyJ cyZ qE q_por q_confs q_near q_leads q_agrees q_answers q_hopes q_opens q_most q_ready H.size N x1 x2 leads rRules rCount r_5 hc) (cwV 2 hts gX3_countOpen_X3_leadAt rfl rfl rfl (by decide +kernel) ⟨Nat.le_of_ble_eq_true rfl, Nat.le_of_ble_eq_true rfl⟩) X0_car trivial hP hD hS [0, 1] rfl rfl 0 2 rfl rfl rfl hl.1 rfl (Nat.le_of_ble_eq_true rfl) dX3_countOpen_39 ⟨Nat.le_of_ble_eq_true rfl, Nat.le_of_ble_eq_true rfl⟩) hP hD hS [0, 1] [2, 3] [2, 3, 0, 1] rfl rfl rfl (by decide) rfl rfl (fun H locs hP hD hS => ?_)
    refine lv_istore_n (lv' := [(3, .int r_5), (0, .ref qE), (1, .int x1), (2, .int x2)]) hx hb dX3_countOpen_42 rfl hl (by decide) rfl (fun ls hl => ?_)
    refine lv_iload_n hx hb dX3_countOpen_43 rfl (lv_at hl 0 rfl) ?_
    refine lv_if_lt (tgt := 57) hx hb dX3_countOpen_44 (by decide) (fun c_6 => ?_) (fun c_6 => ?_)
    · replace hf := it_t hf c_6
      obtain ⟨x2_7, e_7, hf⟩ := nm_el hf
      refine lv_iinc (v := x2_7) (lv' := [(2, .int x2_7), (3, .int r_5), (0, .ref qE), (1, .int x1)]) hx hb dX3_countOpen_57 hl (k := 3) rfl (by rw [e_7]; rfl) (by decide) rfl (fun ls hl => ?_)
      refine lv_goto (tgt := 28) hx hb dX3_countOpen_60 (by decide) ?_
      exact Kh _ _ (Option.some.inj hf).symm H locs ls hP hD hS (lv_sub hl [2, 3, 0] rfl)
    · replace hf := it_f hf c_6
      refine lv_aload_n hx hb dX3_countOpen_47 rfl (lv_at hl 1 rfl) ?_
      refine va_get (D := (dC, dI)) (ci := 2) (v := .ref q_opens) (C := RX3) (T := TX3) (N := 12) hx hb hts hn_X3_countOpen_X3 hown hK hP 0 rfl rfl 7 (by decide) (hts (.fieldLink RX3 36 "MetAgents$Reach" "open" "[I") (List.mem_of_getElem? (i := 1) rfl)) (fun _ h9 => h9) rfl dX3_countOpen_48 ?_
      refine lv_iload_n hx hb dX3_countOpen_51 rfl (lv_at hl 0 rfl) ?_
      refine lv_dup2_11 hx hb dX3_countOpen_52 rfl rfl ?_
      obtain ⟨h_8, hf⟩ := gd_el hf
      refine va_iald hx hb hK hP 2 0 rfl rfl (inb_in h_8) dX3_countOpen_53 ?_
      refine lv_iconst (v := 1) hx hb dX3_countOpen_54 (by decide) ?_
      refine lv_iadd hx hb dX3_countOpen_55 ?_
      obtain ⟨h_9, hf⟩ := gd_el hf
      obtain ⟨opens_10, e_10, hf⟩ := nm_el hf
      refine ast_i (w2 := (w_X3_countOpen cyI cyJ cyZ qE q_por q_confs q_near q_leads q_agrees q_answers q_hopes q_opens q_most q_ready rRules rCount leads opens_10 most)) hx hb hK hP hD hS 2 0 rfl rfl (inb_in h_9) e_10 rfl dX3_countOpen_56 (fun H locs hP hD hS => ?_)
      obtain ⟨x2_11, e_11, hf⟩ := nm_el hf
      refine lv_iinc (v := x2_11) (lv' := [(2, .int x2_11), (3, .int r_5), (0, .ref qE), (1, .int x1)]) hx hb dX3_countOpen_57 hl (k := 3) rfl (by rw [e_11]; rfl) (by decide) rfl (fun ls hl => ?_)
      refine lv_goto (tgt := 28) hx hb dX3_countOpen_60 (by decide) ?_
      exact Kh _ _ (Option.some.inj hf).symm H locs ls hP hD hS (lv_sub hl [2, 3, 0] rfl)
set_option maxHeartbeats 4000000 in
set_option maxRecDepth 100000 in
theorem l_X3_countOpen_b28 (C0 : Cx p s m args meth c cX3_countOpen none 4 RX3 wsX3_countOpen A dC dI cyI cyJ cyZ) {qE q_por q_confs q_near q_leads q_agrees q_answers q_hopes q_opens q_most q_ready : Nat} (hXs : X0 A s) {N : Nat} {x1 : Int32} {rRules : Int32} {rCount : Int32} {leads : Nat → Int32} {most : Nat → Int32} {opens9 : Nat → Int32} {most9 : Nat → Int32} {z : (Nat → Int32)} (Ke : ∀ (zopens : Nat → Int32), z = zopens → ∀ (H : Heap) (locs : List Loc) (ls : Array Slot), va_P (dC, dI) vwCl (w_X3_countOpen cyI cyJ cyZ qE q_por q_confs q_near q_leads q_agrees q_answers q_hopes q_opens q_most q_ready rRules rCount leads zopens most) H → va_D A (w_X3_countOpen cyI cyJ cyZ qE q_por q_confs q_near q_leads q_agrees q_answers q_hopes q_opens q_most q_ready rRules rCount leads zopens most) → va_S A s.heap H locs → lv_has ls 4 [(0, .ref qE), (1, .int x1)] → W p l e rm_X3_countOpen s m args below meth c H locs 0 0 (MQ below (Qzv dC dI cyI cyJ cyZ A (w_X3_countOpen cyI cyJ cyZ qE q_por q_confs q_near q_leads q_agrees q_answers q_hopes q_opens q_most q_ready rRules rCount leads opens9 most9)) args s 0 0 A) (F0 m 63 ls [])) : ∀ (n9 : Nat) (x2 : Int32) (opens : Nat → Int32), loopN (fun (w9 : Int32 × (Nat → Int32)) => f_X3_countOpen_b28 N x1 rRules rCount leads most w9.1 w9.2) n9 (x2, opens) = some z → ∀ (H : Heap) (locs : List Loc) (ls : Array Slot), va_P (dC, dI) vwCl (w_X3_countOpen cyI cyJ cyZ qE q_por q_confs q_near q_leads q_agrees q_answers q_hopes q_opens q_most q_ready rRules rCount leads opens most) H → va_D A (w_X3_countOpen cyI cyJ cyZ qE q_por q_confs q_near q_leads q_agrees q_answers q_hopes q_opens q_most q_ready rRules rCount leads opens most) → va_S A s.heap H locs → lv_has ls 4 [(0, .ref qE), (1, .int x1), (2, .int x2)] → W p l e rm_X3_countOpen s m args below meth c H locs 0 0 (MQ below (Qzv dC dI cyI cyJ cyZ A (w_X3_countOpen cyI cyJ cyZ qE q_por q_confs q_near q_leads q_agrees q_answers q_hopes q_opens q_most q_ready rRules rCount leads opens9 most9)) args s 0 0 A) (F0 m 28 ls []) := by
  intro n9
  induction n9 with
  | zero => intro _ _ h; cases h
  | succ n9 ih =>
    intro x2 opens h H locs ls hP hD hS hl
    rcases loopN_el h with ⟨y9, h1, h2⟩ | h1
    · exact t_X3_countOpen_b28 C0 hXs  h1 (fun zx2 zopens q9 H locs ls hP hD hS hl => ih zx2 zopens (by cases q9; exact h2) H locs ls hP hD hS hl) (fun _ q9 => by cases q9) H locs ls hP hD hS hl
    · exact t_X3_countOpen_b28 C0 hXs  h1 (fun _ _ q9 => by cases q9) (fun eopens q9 => Ke eopens (by cases q9; rfl)) H locs ls hP hD hS hl
def f_X3_countOpen_b18 (N : Nat) (rRules : Int32) (rCount : Int32) (leads : Nat → Int32) (most : Nat → Int32) (x1 : Int32) (opens : Nat → Int32) : Option ((Int32 × (Nat → Int32)) ⊕ ((Nat → Int32))) :=
  (if rCount ≤ x1 then some (Sum.inr opens) else bd1 (loopN (fun (w9 : Int32 × (Nat → Int32)) => f_X3_countOpen_b28 N x1 rRules rCount leads most w9.1 w9.2) N (0, opens)) (fun opens_12 => nm (x1 + 1) (fun x1_13 => some (Sum.inl (x1_13, opens_12)))))
set_option maxHeartbeats 4000000 in
set_option maxRecDepth 100000 in
theorem t_X3_countOpen_b18 (C0 : Cx p s m args meth c cX3_countOpen none 4 RX3 wsX3_countOpen A dC dI cyI cyJ cyZ) {qE q_por q_confs q_near q_leads q_agrees q_answers q_hopes q_opens q_most q_ready : Nat} (hXs : X0 A s) {N : Nat} {rRules : Int32} {rCount : Int32} {leads : Nat → Int32} {most : Nat → Int32} {x1 : Int32} {opens : Nat → Int32} {opens9 : Nat → Int32} {most9 : Nat → Int32} {r : (Int32 × (Nat → Int32)) ⊕ ((Nat → Int32))} (hf : f_X3_countOpen_b18 N rRules rCount leads most x1 opens = some r) (Kh : ∀ (zx1 : Int32) (zopens : Nat → Int32), r = Sum.inl (zx1, zopens) → ∀ (H : Heap) (locs : List Loc) (ls : Array Slot), va_P (dC, dI) vwCl (w_X3_countOpen cyI cyJ cyZ qE q_por q_confs q_near q_leads q_agrees q_answers q_hopes q_opens q_most q_ready rRules rCount leads zopens most) H → va_D A (w_X3_countOpen cyI cyJ cyZ qE q_por q_confs q_near q_leads q_agrees q_answers q_hopes q_opens q_most q_ready rRules rCount leads zopens most) → va_S A s.heap H locs → lv_has ls 4 [(0, .ref qE), (1, .int zx1)] → W p l e rm_X3_countOpen s m args below meth c H locs 0 0 (MQ below (Qzv dC dI cyI cyJ cyZ A (w_X3_countOpen cyI cyJ cyZ qE q_por q_confs q_near q_leads q_agrees q_answers q_hopes q_opens q_most q_ready rRules rCount leads opens9 most9)) args s 0 0 A) (F0 m 18 ls [])) (Ke : ∀ (zopens : Nat → Int32), r = Sum.inr zopens → ∀ (H : Heap) (locs : List Loc) (ls : Array Slot), va_P (dC, dI) vwCl (w_X3_countOpen cyI cyJ cyZ qE q_por q_confs q_near q_leads q_agrees q_answers q_hopes q_opens q_most q_ready rRules rCount leads zopens most) H → va_D A (w_X3_countOpen cyI cyJ cyZ qE q_por q_confs q_near q_leads q_agrees q_answers q_hopes q_opens q_most q_ready rRules rCount leads zopens most) → va_S A s.heap H locs → lv_has ls 4 [] → W p l e rm_X3_countOpen s m args below meth c H locs 0 0 (MQ below (Qzv dC dI cyI cyJ cyZ A (w_X3_countOpen cyI cyJ cyZ qE q_por q_confs q_near q_leads q_agrees q_answers q_hopes q_opens q_most q_ready rRules rCount leads opens9 most9)) args s 0 0 A) (F0 m 69 ls [])) (H : Heap) (locs : List Loc) (ls : Array Slot) (hP : va_P (dC, dI) vwCl (w_X3_countOpen cyI cyJ cyZ qE q_por q_confs q_near q_leads q_agrees q_answers q_hopes q_opens q_most q_ready rRules rCount leads opens most) H) (hD : va_D A (w_X3_countOpen cyI cyJ cyZ qE q_por q_confs q_near q_leads q_agrees q_answers q_hopes q_opens q_most q_ready rRules rCount leads opens most)) (hS : va_S A s.heap H locs) (hl : lv_has ls 4 [(0, .ref qE), (1, .int x1)]) : W p l e rm_X3_countOpen s m args below meth c H locs 0 0 (MQ below (Qzv dC dI cyI cyJ cyZ A (w_X3_countOpen cyI cyJ cyZ qE q_por q_confs q_near q_leads q_agrees q_answers q_hopes q_opens q_most q_ready rRules rCount leads opens9 most9)) args s 0 0 A) (F0 m 18 ls []) := by
  have C1 := C0
  obtain ⟨hx, hb, hr, hlocks, hml, hown, hts, hA, hK⟩ := C1
  unfold f_X3_countOpen_b18 at hf
  refine lv_iload_n hx hb dX3_countOpen_18 rfl (lv_at hl 1 rfl) ?_
  refine lv_aload_n hx hb dX3_countOpen_19 rfl (lv_at hl 0 rfl) ?_
  refine va_get (D := (dC, dI)) (ci := 2) (v := .int rCount) (C := RX3) (T := TX3) (N := 12) hx hb hts hn_X3_countOpen_X3 hown hK hP 0 rfl rfl 11 (by decide) (hts (.fieldLink RX3 60 "MetAgents$Reach" "count" "I") (List.mem_of_getElem? (i := 3) rfl)) (fun _ h9 => h9) rfl dX3_countOpen_20 ?_
  refine lv_icmp_ge (tgt := 69) hx hb dX3_countOpen_23 (by decide) (fun c_3 => ?_) (fun c_3 => ?_)
  · replace hf := it_t hf c_3
    exact Ke _ (Option.some.inj hf).symm H locs ls hP hD hS (lv_sub hl [] rfl)
  · replace hf := it_f hf c_3
    refine lv_iconst (v := 0) hx hb dX3_countOpen_26 (by decide) ?_
    refine lv_istore_n (lv' := [(2, .int 0), (0, .ref qE), (1, .int x1)]) hx hb dX3_countOpen_27 rfl hl (by decide) rfl (fun ls hl => ?_)
    obtain ⟨opens_12, hlp, hf⟩ := bd1_el hf
    refine l_X3_countOpen_b28 C0 hXs (fun opens_12 q9 H locs ls hP hD hS hl => ?_) N _ _ hlp H locs ls hP hD hS (lv_sub hl [1, 2, 0] rfl)
    cases q9
    obtain ⟨x1_13, e_13, hf⟩ := nm_el hf
    refine lv_iinc (v := x1_13) (lv' := [(1, .int x1_13), (0, .ref qE)]) hx hb dX3_countOpen_63 hl (k := 1) rfl (by rw [e_13]; rfl) (by decide) rfl (fun ls hl => ?_)
    refine lv_goto (tgt := 18) hx hb dX3_countOpen_66 (by decide) ?_
    exact Kh _ _ (Option.some.inj hf).symm H locs ls hP hD hS (lv_sub hl [1, 0] rfl)
set_option maxHeartbeats 4000000 in
set_option maxRecDepth 100000 in
theorem l_X3_countOpen_b18 (C0 : Cx p s m args meth c cX3_countOpen none 4 RX3 wsX3_countOpen A dC dI cyI cyJ cyZ) {qE q_por q_confs q_near q_leads q_agrees q_answers q_hopes q_opens q_most q_ready : Nat} (hXs : X0 A s) {N : Nat} {rRules : Int32} {rCount : Int32} {leads : Nat → Int32} {most : Nat → Int32} {opens9 : Nat → Int32} {most9 : Nat → Int32} {z : (Nat → Int32)} (Ke : ∀ (zopens : Nat → Int32), z = zopens → ∀ (H : Heap) (locs : List Loc) (ls : Array Slot), va_P (dC, dI) vwCl (w_X3_countOpen cyI cyJ cyZ qE q_por q_confs q_near q_leads q_agrees q_answers q_hopes q_opens q_most q_ready rRules rCount leads zopens most) H → va_D A (w_X3_countOpen cyI cyJ cyZ qE q_por q_confs q_near q_leads q_agrees q_answers q_hopes q_opens q_most q_ready rRules rCount leads zopens most) → va_S A s.heap H locs → lv_has ls 4 [] → W p l e rm_X3_countOpen s m args below meth c H locs 0 0 (MQ below (Qzv dC dI cyI cyJ cyZ A (w_X3_countOpen cyI cyJ cyZ qE q_por q_confs q_near q_leads q_agrees q_answers q_hopes q_opens q_most q_ready rRules rCount leads opens9 most9)) args s 0 0 A) (F0 m 69 ls [])) : ∀ (n9 : Nat) (x1 : Int32) (opens : Nat → Int32), loopN (fun (w9 : Int32 × (Nat → Int32)) => f_X3_countOpen_b18 N rRules rCount leads most w9.1 w9.2) n9 (x1, opens) = some z → ∀ (H : Heap) (locs : List Loc) (ls : Array Slot), va_P (dC, dI) vwCl (w_X3_countOpen cyI cyJ cyZ qE q_por q_confs q_near q_leads q_agrees q_answers q_hopes q_opens q_most q_ready rRules rCount leads opens most) H → va_D A (w_X3_countOpen cyI cyJ cyZ qE q_por q_confs q_near q_leads q_agrees q_answers q_hopes q_opens q_most q_ready rRules rCount leads opens most) → va_S A s.heap H locs → lv_has ls 4 [(0, .ref qE), (1, .int x1)] → W p l e rm_X3_countOpen s m args below meth c H locs 0 0 (MQ below (Qzv dC dI cyI cyJ cyZ A (w_X3_countOpen cyI cyJ cyZ qE q_por q_confs q_near q_leads q_agrees q_answers q_hopes q_opens q_most q_ready rRules rCount leads opens9 most9)) args s 0 0 A) (F0 m 18 ls []) := by
  intro n9
  induction n9 with
  | zero => intro _ _ h; cases h
  | succ n9 ih =>
    intro x1 opens h H locs ls hP hD hS hl
    rcases loopN_el h with ⟨y9, h1, h2⟩ | h1
    · exact t_X3_countOpen_b18 C0 hXs  h1 (fun zx1 zopens q9 H locs ls hP hD hS hl => ih zx1 zopens (by cases q9; exact h2) H locs ls hP hD hS hl) (fun _ q9 => by cases q9) H locs ls hP hD hS hl
    · exact t_X3_countOpen_b18 C0 hXs  h1 (fun _ _ q9 => by cases q9) (fun eopens q9 => Ke eopens (by cases q9; rfl)) H locs ls hP hD hS hl
def f_X3_countOpen (N : Nat) (rRules : Int32) (rCount : Int32) (leads : Nat → Int32) (opens : Nat → Int32) (most : Nat → Int32) : Option ((Nat → Int32) × (Nat → Int32)) :=
  bd1 (f_J7_fill_53178 N 462 0 opens) (fun opens_1 => bd1 (f_J7_fill_53178 N 462 0 most) (fun most_2 => bd1 (loopN (fun (w9 : Int32 × (Nat → Int32)) => f_X3_countOpen_b18 N rRules rCount leads most_2 w9.1 w9.2) N (0, opens_1)) (fun opens_14 => some (opens_14, most_2))))
set_option maxHeartbeats 4000000 in
set_option maxRecDepth 100000 in
theorem t_X3_countOpen (C0 : Cx p s m args meth c cX3_countOpen none 4 RX3 wsX3_countOpen A dC dI cyI cyJ cyZ) {qE q_por q_confs q_near q_leads q_agrees q_answers q_hopes q_opens q_most q_ready : Nat} (hXs : X0 A s) {N : Nat} {rRules : Int32} {rCount : Int32} {leads : Nat → Int32} {opens : Nat → Int32} {most : Nat → Int32} {opens9 : Nat → Int32} {most9 : Nat → Int32} (hf : f_X3_countOpen N rRules rCount leads opens most = some (opens9, most9)) (H : Heap) (locs : List Loc) (ls : Array Slot) (hP : va_P (dC, dI) vwCl (w_X3_countOpen cyI cyJ cyZ qE q_por q_confs q_near q_leads q_agrees q_answers q_hopes q_opens q_most q_ready rRules rCount leads opens most) H) (hD : va_D A (w_X3_countOpen cyI cyJ cyZ qE q_por q_confs q_near q_leads q_agrees q_answers q_hopes q_opens q_most q_ready rRules rCount leads opens most)) (hS : va_S A s.heap H locs) (hl : lv_has ls 4 [(0, .ref qE)]) : W p l e rm_X3_countOpen s m args below meth c H locs 0 0 (MQ below (Qzv dC dI cyI cyJ cyZ A (w_X3_countOpen cyI cyJ cyZ qE q_por q_confs q_near q_leads q_agrees q_answers q_hopes q_opens q_most q_ready rRules rCount leads opens9 most9)) args s 0 0 A) (F0 m 0 ls []) := by
  have C1 := C0
  obtain ⟨hx, hb, hr, hlocks, hml, hown, hts, hA, hK⟩ := C1
  unfold f_X3_countOpen at hf
  refine lv_aload_n hx hb dX3_countOpen_0 rfl (lv_at hl 0 rfl) ?_
  refine va_get (D := (dC, dI)) (ci := 2) (v := .ref q_opens) (C := RX3) (T := TX3) (N := 12) hx hb hts hn_X3_countOpen_X3 hown hK hP 0 rfl rfl 7 (by decide) (hts (.fieldLink RX3 36 "MetAgents$Reach" "open" "[I") (List.mem_of_getElem? (i := 1) rfl)) (fun _ h9 => h9) rfl dX3_countOpen_1 ?_
  refine lv_iconst (v := 0) hx hb dX3_countOpen_4 (by decide) ?_
  obtain ⟨opens_1, hc, hf⟩ := bd1_el hf
  refine cl_v (wc := (w_J7_fill_53178 cyI cyJ cyZ q_opens 462 opens)) (wr := [(qE, .inr (2, [.ref q_por, .ref q_confs, .ref q_near, .ref q_leads, .ref q_agrees, .ref q_answers, .ref q_hopes, .ref q_opens, .ref q_most, .ref q_ready, .int rRules, .int rCount])), (q_leads, .inl (cyI, 5544, .inl leads)), (q_most, .inl (cyI, 462, .inl most))]) (w1 := (w_J7_fill_53178 cyI cyJ cyZ q_opens 462 opens_1)) (w2 := (w_X3_countOpen cyI cyJ cyZ qE q_por q_confs q_near q_leads q_agrees q_answers q_hopes q_opens q_most q_ready rRules rCount leads opens_1 most)) C0 (rn_S (As := [.ref q_opens, .int 0]) (rest := []) (wc := (w_J7_fill_53178 cyI cyJ cyZ q_opens 462 opens)) (X := X0) C0 (c_J7_fill_53178 l dC dI cyI cyJ cyZ q_opens 462 H.size N 0 opens opens_1 hc) (va_cwS 2 hts gX3_countOpen_J7_fill_53178 rfl rfl rfl (by decide +kernel) ⟨Nat.le_of_ble_eq_true rfl, Nat.le_of_ble_eq_true rfl⟩) X0_car trivial hP hD hS [2] rfl rfl rfl hl.1 rfl (Nat.le_of_ble_eq_true rfl) dX3_countOpen_5 ⟨Nat.le_of_ble_eq_true rfl, Nat.le_of_ble_eq_true rfl⟩) hP hD hS [2] [0, 1, 3] [0, 1, 3, 2] rfl rfl rfl (by decide) rfl rfl (fun H locs hP hD hS => ?_)
  refine lv_aload_n hx hb dX3_countOpen_8 rfl (lv_at hl 0 rfl) ?_
  refine va_get (D := (dC, dI)) (ci := 2) (v := .ref q_most) (C := RX3) (T := TX3) (N := 12) hx hb hts hn_X3_countOpen_X3 hown hK hP 0 rfl rfl 8 (by decide) (hts (.fieldLink RX3 39 "MetAgents$Reach" "most" "[I") (List.mem_of_getElem? (i := 2) rfl)) (fun _ h9 => h9) rfl dX3_countOpen_9 ?_
  refine lv_iconst (v := 0) hx hb dX3_countOpen_12 (by decide) ?_
  obtain ⟨most_2, hc, hf⟩ := bd1_el hf
  refine cl_v (wc := (w_J7_fill_53178 cyI cyJ cyZ q_most 462 most)) (wr := [(qE, .inr (2, [.ref q_por, .ref q_confs, .ref q_near, .ref q_leads, .ref q_agrees, .ref q_answers, .ref q_hopes, .ref q_opens, .ref q_most, .ref q_ready, .int rRules, .int rCount])), (q_leads, .inl (cyI, 5544, .inl leads)), (q_opens, .inl (cyI, 462, .inl opens_1))]) (w1 := (w_J7_fill_53178 cyI cyJ cyZ q_most 462 most_2)) (w2 := (w_X3_countOpen cyI cyJ cyZ qE q_por q_confs q_near q_leads q_agrees q_answers q_hopes q_opens q_most q_ready rRules rCount leads opens_1 most_2)) C0 (rn_S (As := [.ref q_most, .int 0]) (rest := []) (wc := (w_J7_fill_53178 cyI cyJ cyZ q_most 462 most)) (X := X0) C0 (c_J7_fill_53178 l dC dI cyI cyJ cyZ q_most 462 H.size N 0 most most_2 hc) (va_cwS 2 hts gX3_countOpen_J7_fill_53178 rfl rfl rfl (by decide +kernel) ⟨Nat.le_of_ble_eq_true rfl, Nat.le_of_ble_eq_true rfl⟩) X0_car trivial hP hD hS [3] rfl rfl rfl hl.1 rfl (Nat.le_of_ble_eq_true rfl) dX3_countOpen_13 ⟨Nat.le_of_ble_eq_true rfl, Nat.le_of_ble_eq_true rfl⟩) hP hD hS [3] [0, 1, 2] [0, 1, 2, 3] rfl rfl rfl (by decide) rfl rfl (fun H locs hP hD hS => ?_)
  refine lv_iconst (v := 0) hx hb dX3_countOpen_16 (by decide) ?_
  refine lv_istore_n (lv' := [(1, .int 0), (0, .ref qE)]) hx hb dX3_countOpen_17 rfl hl (by decide) rfl (fun ls hl => ?_)
  obtain ⟨opens_14, hlp, hf⟩ := bd1_el hf
  refine l_X3_countOpen_b18 C0 hXs (fun opens_14 q9 H locs ls hP hD hS hl => ?_) N _ _ hlp H locs ls hP hD hS (lv_sub hl [1, 0] rfl)
  cases q9
  cases hf
  exact W.vret hx hb hr (fun t ht hW => ⟨⟨(), rfl, trivial, by rw [ht]; exact hP, va_K.moved hW.alike hK, hD⟩, hS.F ht⟩) hS.2.2 dX3_countOpen_69
set_option maxHeartbeats 4000000 in
set_option maxRecDepth 100000 in
theorem c_X3_countOpen (l : Launch) (dC : Nat → ClassId) (dI : Nat → Nat → Nat) (cyI cyJ cyZ : ClassId) (qE q_por q_confs q_near q_leads q_agrees q_answers q_hopes q_opens q_most q_ready : Nat) (sz N : Nat) (rRules : Int32) (rCount : Int32) (leads : Nat → Int32) (opens : Nat → Int32) (most : Nat → Int32) (opens9 : Nat → Int32) (most9 : Nat → Int32) (hf : f_X3_countOpen N rRules rCount leads opens most = some (opens9, most9)) : Met l yX3_countOpen wsX3_countOpen rm_X3_countOpen (Pz dC dI cyI cyJ cyZ [.ref qE] sz (w_X3_countOpen cyI cyJ cyZ qE q_por q_confs q_near q_leads q_agrees q_answers q_hopes q_opens q_most q_ready rRules rCount leads opens most) X0) (Qzv dC dI cyI cyJ cyZ (va_A (w_X3_countOpen cyI cyJ cyZ qE q_por q_confs q_near q_leads q_agrees q_answers q_hopes q_opens q_most q_ready rRules rCount leads opens most) sz) (w_X3_countOpen cyI cyJ cyZ qE q_por q_confs q_near q_leads q_agrees q_answers q_hopes q_opens q_most q_ready rRules rCount leads opens9 most9)) 0 0 (va_A (w_X3_countOpen cyI cyJ cyZ qE q_por q_confs q_near q_leads q_agrees q_answers q_hopes q_opens q_most q_ready rRules rCount leads opens most) sz) := by
  refine Met_of (cc := cX3_countOpen) (maxL := 4) (ret := none) (by decide) rfl (Nat.le_of_ble_eq_true rfl) ?_
  intro p e s m args below meth c ls C0 hsz hXs hP hD hS hl
  exact t_X3_countOpen C0 hXs hf s.heap [] ls hP hD hS hl
abbrev w_X3_leave (cyI cyJ cyZ : ClassId) (qE q_por q_confs q_near q_leads q_agrees q_answers q_hopes q_opens q_most q_ready : Nat) (rRules : Int32) (rCount : Int32) (leads : Nat → Int32) (opens : Nat → Int32) (most : Nat → Int32) (ready : Nat → Int32) : va_W := [(qE, .inr (2, [.ref q_por, .ref q_confs, .ref q_near, .ref q_leads, .ref q_agrees, .ref q_answers, .ref q_hopes, .ref q_opens, .ref q_most, .ref q_ready, .int rRules, .int rCount])), (q_leads, .inl (cyI, 5544, .inl leads)), (q_opens, .inl (cyI, 462, .inl opens)), (q_most, .inl (cyI, 462, .inl most)), (q_ready, .inl (cyI, 462, .inl ready))]
abbrev rm_X3_leave : Room := { frames := 1, cells := 0, slots := 0, locals := 24 }
theorem hn_X3_leave_X3 : ∀ w ∈ wsX30, w ∈ wsX3_leave := fun _ h => List.mem_cons_of_mem _ (List.mem_append_right _ h)
def f_X3_leave_b5 (N : Nat) (x1 : Int32) (rRules : Int32) (leads : Nat → Int32) (x3 : Int32) (x4 : Int32) (opens : Nat → Int32) (most : Nat → Int32) (ready : Nat → Int32) : Option ((Int32 × Int32 × (Nat → Int32) × (Nat → Int32) × (Nat → Int32)) ⊕ (Int32 × (Nat → Int32) × (Nat → Int32) × (Nat → Int32))) :=
  (if rRules ≤ x4 then some (Sum.inr (x3, opens, most, ready)) else bd1 (f_X3_leadAt N x1 x4 leads) (fun r_2 => (if r_2 < 0 then nm (x4 + 1) (fun x4_4 => some (Sum.inl (x3, x4_4, opens, most, ready))) else gd (inb r_2 462) (gd (inb x1 462) (gd (inb r_2 462) (nm (upd most r_2.toNatClampNeg (if (most r_2.toNatClampNeg) < ((most x1.toNatClampNeg) + 1) then ((most x1.toNatClampNeg) + 1) else (most r_2.toNatClampNeg))) (fun most_8 => gd (inb r_2 462) (gd (inb r_2 462) (nm (upd opens r_2.toNatClampNeg ((opens r_2.toNatClampNeg) - 1)) (fun opens_11 => gd (inb r_2 462) ((if (opens_11 r_2.toNatClampNeg) = 0 then (if 462 ≤ x3 then nm (x4 + 1) (fun x4_16 => some (Sum.inl (x3, x4_16, opens_11, most_8, ready))) else gd (inb x3 462) (nm (upd ready x3.toNatClampNeg r_2) (fun ready_18 => nm (x3 + 1) (fun x3_19 => nm (x4 + 1) (fun x4_20 => some (Sum.inl (x3_19, x4_20, opens_11, most_8, ready_18))))))) else nm (x4 + 1) (fun x4_14 => some (Sum.inl (x3, x4_14, opens_11, most_8, ready)))))))))))))))
set_option maxHeartbeats 4000000 in
set_option maxRecDepth 100000 in
theorem t_X3_leave_b5 (C0 : Cx p s m args meth c cX3_leave (some .int) 6 RX3 wsX3_leave A dC dI cyI cyJ cyZ) {qE q_por q_confs q_near q_leads q_agrees q_answers q_hopes q_opens q_most q_ready : Nat} (hXs : X0 A s) {N : Nat} {x1 : Int32} {rRules : Int32} {leads : Nat → Int32} {x3 : Int32} {x4 : Int32} {opens : Nat → Int32} {most : Nat → Int32} {ready : Nat → Int32} {rCount : Int32} {r9 : Int32} {opens9 : Nat → Int32} {most9 : Nat → Int32} {ready9 : Nat → Int32} {r : (Int32 × Int32 × (Nat → Int32) × (Nat → Int32) × (Nat → Int32)) ⊕ (Int32 × (Nat → Int32) × (Nat → Int32) × (Nat → Int32))} (hf : f_X3_leave_b5 N x1 rRules leads x3 x4 opens most ready = some r) (Kh : ∀ (zx3 : Int32) (zx4 : Int32) (zopens : Nat → Int32) (zmost : Nat → Int32) (zready : Nat → Int32), r = Sum.inl (zx3, zx4, zopens, zmost, zready) → ∀ (H : Heap) (locs : List Loc) (ls : Array Slot), va_P (dC, dI) vwCl (w_X3_leave cyI cyJ cyZ qE q_por q_confs q_near q_leads q_agrees q_answers q_hopes q_opens q_most q_ready rRules rCount leads zopens zmost zready) H → va_D A (w_X3_leave cyI cyJ cyZ qE q_por q_confs q_near q_leads q_agrees q_answers q_hopes q_opens q_most q_ready rRules rCount leads zopens zmost zready) → va_S A s.heap H locs → lv_has ls 6 [(0, .ref qE), (1, .int x1), (3, .int zx3), (4, .int zx4)] → W p l e rm_X3_leave s m args below meth c H locs 0 0 (MQ below (Qzi dC dI cyI cyJ cyZ A (w_X3_leave cyI cyJ cyZ qE q_por q_confs q_near q_leads q_agrees q_answers q_hopes q_opens q_most q_ready rRules rCount leads opens9 most9 ready9) r9) args s 0 0 A) (F0 m 5 ls [])) (Ke : ∀ (zx3 : Int32) (zopens : Nat → Int32) (zmost : Nat → Int32) (zready : Nat → Int32), r = Sum.inr (zx3, zopens, zmost, zready) → ∀ (H : Heap) (locs : List Loc) (ls : Array Slot), va_P (dC, dI) vwCl (w_X3_leave cyI cyJ cyZ qE q_por q_confs q_near q_leads q_agrees q_answers q_hopes q_opens q_most q_ready rRules rCount leads zopens zmost zready) H → va_D A (w_X3_leave cyI cyJ cyZ qE q_por q_confs q_near q_leads q_agrees q_answers q_hopes q_opens q_most q_ready rRules rCount leads zopens zmost zready) → va_S A s.heap H locs → lv_has ls 6 [(3, .int zx3)] → W p l e rm_X3_leave s m args below meth c H locs 0 0 (MQ below (Qzi dC dI cyI cyJ cyZ A (w_X3_leave cyI cyJ cyZ qE q_por q_confs q_near q_leads q_agrees q_answers q_hopes q_opens q_most q_ready rRules rCount leads opens9 most9 ready9) r9) args s 0 0 A) (F0 m 98 ls [])) (H : Heap) (locs : List Loc) (ls : Array Slot) (hP : va_P (dC, dI) vwCl (w_X3_leave cyI cyJ cyZ qE q_por q_confs q_near q_leads q_agrees q_answers q_hopes q_opens q_most q_ready rRules rCount leads opens most ready) H) (hD : va_D A (w_X3_leave cyI cyJ cyZ qE q_por q_confs q_near q_leads q_agrees q_answers q_hopes q_opens q_most q_ready rRules rCount leads opens most ready)) (hS : va_S A s.heap H locs) (hl : lv_has ls 6 [(0, .ref qE), (1, .int x1), (3, .int x3), (4, .int x4)]) : W p l e rm_X3_leave s m args below meth c H locs 0 0 (MQ below (Qzi dC dI cyI cyJ cyZ A (w_X3_leave cyI cyJ cyZ qE q_por q_confs q_near q_leads q_agrees q_answers q_hopes q_opens q_most q_ready rRules rCount leads opens9 most9 ready9) r9) args s 0 0 A) (F0 m 5 ls []) := by
  have C1 := C0
  obtain ⟨hx, hb, hr, hlocks, hml, hown, hts, hA, hK⟩ := C1
  unfold f_X3_leave_b5 at hf
  refine lv_iload hx hb dX3_leave_5 (lv_at hl 3 rfl) ?_
  refine lv_aload_n hx hb dX3_leave_7 rfl (lv_at hl 0 rfl) ?_
  refine va_get (D := (dC, dI)) (ci := 2) (v := .int rRules) (C := RX3) (T := TX3) (N := 12) hx hb hts hn_X3_leave_X3 hown hK hP 0 rfl rfl 10 (by decide) (hts (.fieldLink RX3 57 "MetAgents$Reach" "rules" "I") (List.mem_of_getElem? (i := 1) rfl)) (fun _ h9 => h9) rfl dX3_leave_8 ?_
  refine lv_icmp_ge (tgt := 98) hx hb dX3_leave_11 (by decide) (fun c_1 => ?_) (fun c_1 => ?_)
  · replace hf := it_t hf c_1
    exact Ke _ _ _ _ (Option.some.inj hf).symm H locs ls hP hD hS (lv_sub hl [2] rfl)
  · replace hf := it_f hf c_1
    refine lv_aload_n hx hb dX3_leave_14 rfl (lv_at hl 0 rfl) ?_
    refine lv_iload_n hx hb dX3_leave_15 rfl (lv_at hl 1 rfl) ?_
    refine lv_iload hx hb dX3_leave_16 (lv_at hl 3 rfl) ?_
    obtain ⟨r_2, hc, hf⟩ := bd1_el hf
    refine cl_i (wc := (w_X3_leadAt cyI cyJ cyZ qE q_por q_confs q_near q_leads q_agrees q_answers q_hopes q_opens q_most q_ready rRules rCount leads)) (wr := [(q_opens, .inl (cyI, 462, .inl opens)), (q_most, .inl (cyI, 462, .inl most)), (q_ready, .inl (cyI, 462, .inl ready))]) (w1 := (w_X3_leadAt cyI cyJ cyZ qE q_por q_confs q_near q_leads q_agrees q_answers q_hopes q_opens q_most q_ready rRules rCount leads)) (w2 := (w_X3_leave cyI cyJ cyZ qE q_por q_confs q_near q_leads q_agrees q_answers q_hopes q_opens q_most q_ready rRules rCount leads opens most ready)) C0 (rn_V (As := [.int x1, .int x4]) (rest := []) (wc := (w_X3_leadAt cyI cyJ cyZ qE q_por q_confs q_near q_leads q_agrees q_answers q_hopes q_opens q_most q_ready rRules rCount leads)) (X := X0) C0 (c_X3_leadAt l dC dI cyI cyJ cyZ qE q_por q_confs q_near q_leads q_agrees q_answers q_hopes q_opens q_most q_ready H.size N x1 x4 leads rRules rCount r_2 hc) (cwV 2 hts gX3_leave_X3_leadAt rfl rfl rfl (by decide +kernel) ⟨Nat.le_of_ble_eq_true rfl, Nat.le_of_ble_eq_true rfl⟩) X0_car trivial hP hD hS [0, 1] rfl rfl 0 2 rfl rfl rfl hl.1 rfl (Nat.le_of_ble_eq_true rfl) dX3_leave_18 ⟨Nat.le_of_ble_eq_true rfl, Nat.le_of_ble_eq_true rfl⟩) hP hD hS [0, 1] [2, 3, 4] [3, 4, 0, 1, 2] rfl rfl rfl (by decide) rfl rfl (fun H locs hP hD hS => ?_)
    refine lv_istore (lv' := [(5, .int r_2), (0, .ref qE), (1, .int x1), (3, .int x3), (4, .int x4)]) hx hb dX3_leave_21 hl (by decide) rfl (fun ls hl => ?_)
    refine lv_iload hx hb dX3_leave_23 (lv_at hl 0 rfl) ?_
    refine lv_if_lt (tgt := 92) hx hb dX3_leave_25 (by decide) (fun c_3 => ?_) (fun c_3 => ?_)
    · replace hf := it_t hf c_3
      obtain ⟨x4_4, e_4, hf⟩ := nm_el hf
      refine lv_iinc (v := x4_4) (lv' := [(4, .int x4_4), (5, .int r_2), (0, .ref qE), (1, .int x1), (3, .int x3)]) hx hb dX3_leave_92 hl (k := 4) rfl (by rw [e_4]; rfl) (by decide) rfl (fun ls hl => ?_)
      refine lv_goto (tgt := 5) hx hb dX3_leave_95 (by decide) ?_
      exact Kh _ _ _ _ _ (Option.some.inj hf).symm H locs ls hP hD hS (lv_sub hl [2, 3, 4, 0] rfl)
    · replace hf := it_f hf c_3
      refine lv_aload_n hx hb dX3_leave_28 rfl (lv_at hl 1 rfl) ?_
      refine va_get (D := (dC, dI)) (ci := 2) (v := .ref q_most) (C := RX3) (T := TX3) (N := 12) hx hb hts hn_X3_leave_X3 hown hK hP 0 rfl rfl 8 (by decide) (hts (.fieldLink RX3 39 "MetAgents$Reach" "most" "[I") (List.mem_of_getElem? (i := 2) rfl)) (fun _ h9 => h9) rfl dX3_leave_29 ?_
      refine lv_iload hx hb dX3_leave_32 (lv_at hl 0 rfl) ?_
      refine lv_aload_n hx hb dX3_leave_34 rfl (lv_at hl 1 rfl) ?_
      refine va_get (D := (dC, dI)) (ci := 2) (v := .ref q_most) (C := RX3) (T := TX3) (N := 12) hx hb hts hn_X3_leave_X3 hown hK hP 0 rfl rfl 8 (by decide) (hts (.fieldLink RX3 39 "MetAgents$Reach" "most" "[I") (List.mem_of_getElem? (i := 2) rfl)) (fun _ h9 => h9) rfl dX3_leave_35 ?_
      refine lv_iload hx hb dX3_leave_38 (lv_at hl 0 rfl) ?_
      obtain ⟨h_5, hf⟩ := gd_el hf
      refine va_iald hx hb hK hP 3 0 rfl rfl (inb_in h_5) dX3_leave_40 ?_
      refine lv_aload_n hx hb dX3_leave_41 rfl (lv_at hl 1 rfl) ?_
      refine va_get (D := (dC, dI)) (ci := 2) (v := .ref q_most) (C := RX3) (T := TX3) (N := 12) hx hb hts hn_X3_leave_X3 hown hK hP 0 rfl rfl 8 (by decide) (hts (.fieldLink RX3 39 "MetAgents$Reach" "most" "[I") (List.mem_of_getElem? (i := 2) rfl)) (fun _ h9 => h9) rfl dX3_leave_42 ?_
      refine lv_iload_n hx hb dX3_leave_45 rfl (lv_at hl 2 rfl) ?_
      obtain ⟨h_6, hf⟩ := gd_el hf
      refine va_iald hx hb hK hP 3 0 rfl rfl (inb_in h_6) dX3_leave_46 ?_
      refine lv_iconst (v := 1) hx hb dX3_leave_47 (by decide) ?_
      refine lv_iadd hx hb dX3_leave_48 ?_
      refine va_mmax hx hb (by rw [hml]; exact hl.1.symm) hown (hts (.methodLink RX3 119 Lib.Math.max.name) (List.mem_of_getElem? (i := 3) rfl)) (hts (.static Lib.Math.max.name) (List.mem_of_getElem? (i := 4) rfl)) (hts (.initialized "java/lang/Math") (List.mem_of_getElem? (i := 5) rfl)) (hts (.code Lib.Math.max.name Lib.Math.max.code 2 (some .int)) (List.mem_of_getElem? (i := 6) rfl)) (Nat.le_of_ble_eq_true rfl) (Nat.le_of_ble_eq_true rfl) (Nat.zero_le _) (Nat.zero_le _) dX3_leave_49 ?_
      obtain ⟨h_7, hf⟩ := gd_el hf
      obtain ⟨most_8, e_8, hf⟩ := nm_el hf
      refine ast_i (w2 := (w_X3_leave cyI cyJ cyZ qE q_por q_confs q_near q_leads q_agrees q_answers q_hopes q_opens q_most q_ready rRules rCount leads opens most_8 ready)) hx hb hK hP hD hS 3 0 rfl rfl (inb_in h_7) e_8 rfl dX3_leave_52 (fun H locs hP hD hS => ?_)
      refine lv_aload_n hx hb dX3_leave_53 rfl (lv_at hl 1 rfl) ?_
      refine va_get (D := (dC, dI)) (ci := 2) (v := .ref q_opens) (C := RX3) (T := TX3) (N := 12) hx hb hts hn_X3_leave_X3 hown hK hP 0 rfl rfl 7 (by decide) (hts (.fieldLink RX3 36 "MetAgents$Reach" "open" "[I") (List.mem_of_getElem? (i := 7) rfl)) (fun _ h9 => h9) rfl dX3_leave_54 ?_
      refine lv_iload hx hb dX3_leave_57 (lv_at hl 0 rfl) ?_
      refine lv_dup2_11 hx hb dX3_leave_59 rfl rfl ?_
      obtain ⟨h_9, hf⟩ := gd_el hf
      refine va_iald hx hb hK hP 2 0 rfl rfl (inb_in h_9) dX3_leave_60 ?_
      refine lv_iconst (v := 1) hx hb dX3_leave_61 (by decide) ?_
      refine lv_isub hx hb dX3_leave_62 ?_
      obtain ⟨h_10, hf⟩ := gd_el hf
      obtain ⟨opens_11, e_11, hf⟩ := nm_el hf
      refine ast_i (w2 := (w_X3_leave cyI cyJ cyZ qE q_por q_confs q_near q_leads q_agrees q_answers q_hopes q_opens q_most q_ready rRules rCount leads opens_11 most_8 ready)) hx hb hK hP hD hS 2 0 rfl rfl (inb_in h_10) e_11 rfl dX3_leave_63 (fun H locs hP hD hS => ?_)
      refine lv_aload_n hx hb dX3_leave_64 rfl (lv_at hl 1 rfl) ?_
      refine va_get (D := (dC, dI)) (ci := 2) (v := .ref q_opens) (C := RX3) (T := TX3) (N := 12) hx hb hts hn_X3_leave_X3 hown hK hP 0 rfl rfl 7 (by decide) (hts (.fieldLink RX3 36 "MetAgents$Reach" "open" "[I") (List.mem_of_getElem? (i := 7) rfl)) (fun _ h9 => h9) rfl dX3_leave_65 ?_
      refine lv_iload hx hb dX3_leave_68 (lv_at hl 0 rfl) ?_
      obtain ⟨h_12, hf⟩ := gd_el hf
      refine va_iald hx hb hK hP 2 0 rfl rfl (inb_in h_12) dX3_leave_70 ?_
      refine lv_if_ne (tgt := 92) hx hb dX3_leave_71 (by decide) (fun c_13 => ?_) (fun c_13 => ?_)
      · replace hf := it_f hf c_13
        obtain ⟨x4_14, e_14, hf⟩ := nm_el hf
        refine lv_iinc (v := x4_14) (lv' := [(4, .int x4_14), (5, .int r_2), (0, .ref qE), (1, .int x1), (3, .int x3)]) hx hb dX3_leave_92 hl (k := 4) rfl (by rw [e_14]; rfl) (by decide) rfl (fun ls hl => ?_)
        refine lv_goto (tgt := 5) hx hb dX3_leave_95 (by decide) ?_
        exact Kh _ _ _ _ _ (Option.some.inj hf).symm H locs ls hP hD hS (lv_sub hl [2, 3, 4, 0] rfl)
      · replace hf := it_t hf c_13
        refine lv_iload_n hx hb dX3_leave_74 rfl (lv_at hl 3 rfl) ?_
        refine lv_sipush (v := 462) hx hb dX3_leave_75 (by decide) ?_
        refine lv_icmp_ge (tgt := 92) hx hb dX3_leave_78 (by decide) (fun c_15 => ?_) (fun c_15 => ?_)
        · replace hf := it_t hf c_15
          obtain ⟨x4_16, e_16, hf⟩ := nm_el hf
          refine lv_iinc (v := x4_16) (lv' := [(4, .int x4_16), (5, .int r_2), (0, .ref qE), (1, .int x1), (3, .int x3)]) hx hb dX3_leave_92 hl (k := 4) rfl (by rw [e_16]; rfl) (by decide) rfl (fun ls hl => ?_)
          refine lv_goto (tgt := 5) hx hb dX3_leave_95 (by decide) ?_
          exact Kh _ _ _ _ _ (Option.some.inj hf).symm H locs ls hP hD hS (lv_sub hl [2, 3, 4, 0] rfl)
        · replace hf := it_f hf c_15
          refine lv_aload_n hx hb dX3_leave_81 rfl (lv_at hl 1 rfl) ?_
          refine va_get (D := (dC, dI)) (ci := 2) (v := .ref q_ready) (C := RX3) (T := TX3) (N := 12) hx hb hts hn_X3_leave_X3 hown hK hP 0 rfl rfl 9 (by decide) (hts (.fieldLink RX3 42 "MetAgents$Reach" "ready" "[I") (List.mem_of_getElem? (i := 8) rfl)) (fun _ h9 => h9) rfl dX3_leave_82 ?_
          refine lv_iload_n hx hb dX3_leave_85 rfl (lv_at hl 3 rfl) ?_
          refine lv_iload hx hb dX3_leave_86 (lv_at hl 0 rfl) ?_
          obtain ⟨h_17, hf⟩ := gd_el hf
          obtain ⟨ready_18, e_18, hf⟩ := nm_el hf
          refine ast_i (w2 := (w_X3_leave cyI cyJ cyZ qE q_por q_confs q_near q_leads q_agrees q_answers q_hopes q_opens q_most q_ready rRules rCount leads opens_11 most_8 ready_18)) hx hb hK hP hD hS 4 0 rfl rfl (inb_in h_17) e_18 rfl dX3_leave_88 (fun H locs hP hD hS => ?_)
          obtain ⟨x3_19, e_19, hf⟩ := nm_el hf
          refine lv_iinc (v := x3_19) (lv' := [(3, .int x3_19), (5, .int r_2), (0, .ref qE), (1, .int x1), (4, .int x4)]) hx hb dX3_leave_89 hl (k := 3) rfl (by rw [e_19]; rfl) (by decide) rfl (fun ls hl => ?_)
          obtain ⟨x4_20, e_20, hf⟩ := nm_el hf
          refine lv_iinc (v := x4_20) (lv' := [(4, .int x4_20), (3, .int x3_19), (5, .int r_2), (0, .ref qE), (1, .int x1)]) hx hb dX3_leave_92 hl (k := 4) rfl (by rw [e_20]; rfl) (by decide) rfl (fun ls hl => ?_)
          refine lv_goto (tgt := 5) hx hb dX3_leave_95 (by decide) ?_
          exact Kh _ _ _ _ _ (Option.some.inj hf).symm H locs ls hP hD hS (lv_sub hl [3, 4, 1, 0] rfl)
set_option maxHeartbeats 4000000 in
set_option maxRecDepth 100000 in
theorem l_X3_leave_b5 (C0 : Cx p s m args meth c cX3_leave (some .int) 6 RX3 wsX3_leave A dC dI cyI cyJ cyZ) {qE q_por q_confs q_near q_leads q_agrees q_answers q_hopes q_opens q_most q_ready : Nat} (hXs : X0 A s) {N : Nat} {x1 : Int32} {rRules : Int32} {leads : Nat → Int32} {rCount : Int32} {r9 : Int32} {opens9 : Nat → Int32} {most9 : Nat → Int32} {ready9 : Nat → Int32} {z : Int32 × (Nat → Int32) × (Nat → Int32) × (Nat → Int32)} (Ke : ∀ (zx3 : Int32) (zopens : Nat → Int32) (zmost : Nat → Int32) (zready : Nat → Int32), z = (zx3, zopens, zmost, zready) → ∀ (H : Heap) (locs : List Loc) (ls : Array Slot), va_P (dC, dI) vwCl (w_X3_leave cyI cyJ cyZ qE q_por q_confs q_near q_leads q_agrees q_answers q_hopes q_opens q_most q_ready rRules rCount leads zopens zmost zready) H → va_D A (w_X3_leave cyI cyJ cyZ qE q_por q_confs q_near q_leads q_agrees q_answers q_hopes q_opens q_most q_ready rRules rCount leads zopens zmost zready) → va_S A s.heap H locs → lv_has ls 6 [(3, .int zx3)] → W p l e rm_X3_leave s m args below meth c H locs 0 0 (MQ below (Qzi dC dI cyI cyJ cyZ A (w_X3_leave cyI cyJ cyZ qE q_por q_confs q_near q_leads q_agrees q_answers q_hopes q_opens q_most q_ready rRules rCount leads opens9 most9 ready9) r9) args s 0 0 A) (F0 m 98 ls [])) : ∀ (n9 : Nat) (x3 : Int32) (x4 : Int32) (opens : Nat → Int32) (most : Nat → Int32) (ready : Nat → Int32), loopN (fun (w9 : Int32 × Int32 × (Nat → Int32) × (Nat → Int32) × (Nat → Int32)) => f_X3_leave_b5 N x1 rRules leads w9.1 w9.2.1 w9.2.2.1 w9.2.2.2.1 w9.2.2.2.2) n9 (x3, x4, opens, most, ready) = some z → ∀ (H : Heap) (locs : List Loc) (ls : Array Slot), va_P (dC, dI) vwCl (w_X3_leave cyI cyJ cyZ qE q_por q_confs q_near q_leads q_agrees q_answers q_hopes q_opens q_most q_ready rRules rCount leads opens most ready) H → va_D A (w_X3_leave cyI cyJ cyZ qE q_por q_confs q_near q_leads q_agrees q_answers q_hopes q_opens q_most q_ready rRules rCount leads opens most ready) → va_S A s.heap H locs → lv_has ls 6 [(0, .ref qE), (1, .int x1), (3, .int x3), (4, .int x4)] → W p l e rm_X3_leave s m args below meth c H locs 0 0 (MQ below (Qzi dC dI cyI cyJ cyZ A (w_X3_leave cyI cyJ cyZ qE q_por q_confs q_near q_leads q_agrees q_answers q_hopes q_opens q_most q_ready rRules rCount leads opens9 most9 ready9) r9) args s 0 0 A) (F0 m 5 ls []) := by
  intro n9
  induction n9 with
  | zero => intro _ _ _ _ _ h; cases h
  | succ n9 ih =>
    intro x3 x4 opens most ready h H locs ls hP hD hS hl
    rcases loopN_el h with ⟨y9, h1, h2⟩ | h1
    · exact t_X3_leave_b5 C0 hXs  h1 (fun zx3 zx4 zopens zmost zready q9 H locs ls hP hD hS hl => ih zx3 zx4 zopens zmost zready (by cases q9; exact h2) H locs ls hP hD hS hl) (fun _ _ _ _ q9 => by cases q9) H locs ls hP hD hS hl
    · exact t_X3_leave_b5 C0 hXs  h1 (fun _ _ _ _ _ q9 => by cases q9) (fun ex3 eopens emost eready q9 => Ke ex3 eopens emost eready (by cases q9; rfl)) H locs ls hP hD hS hl
def f_X3_leave (N : Nat) (x1 : Int32) (x2 : Int32) (rRules : Int32) (leads : Nat → Int32) (opens : Nat → Int32) (most : Nat → Int32) (ready : Nat → Int32) : Option (Int32 × (Nat → Int32) × (Nat → Int32) × (Nat → Int32)) :=
  bd4 (loopN (fun (w9 : Int32 × Int32 × (Nat → Int32) × (Nat → Int32) × (Nat → Int32)) => f_X3_leave_b5 N x1 rRules leads w9.1 w9.2.1 w9.2.2.1 w9.2.2.2.1 w9.2.2.2.2) N (x2, 0, opens, most, ready)) (fun x3_21 opens_22 most_23 ready_24 => some (x3_21, opens_22, most_23, ready_24))
set_option maxHeartbeats 4000000 in
set_option maxRecDepth 100000 in
theorem t_X3_leave (C0 : Cx p s m args meth c cX3_leave (some .int) 6 RX3 wsX3_leave A dC dI cyI cyJ cyZ) {qE q_por q_confs q_near q_leads q_agrees q_answers q_hopes q_opens q_most q_ready : Nat} (hXs : X0 A s) {N : Nat} {x1 : Int32} {x2 : Int32} {rRules : Int32} {leads : Nat → Int32} {opens : Nat → Int32} {most : Nat → Int32} {ready : Nat → Int32} {rCount : Int32} {r9 : Int32} {opens9 : Nat → Int32} {most9 : Nat → Int32} {ready9 : Nat → Int32} (hf : f_X3_leave N x1 x2 rRules leads opens most ready = some (r9, opens9, most9, ready9)) (H : Heap) (locs : List Loc) (ls : Array Slot) (hP : va_P (dC, dI) vwCl (w_X3_leave cyI cyJ cyZ qE q_por q_confs q_near q_leads q_agrees q_answers q_hopes q_opens q_most q_ready rRules rCount leads opens most ready) H) (hD : va_D A (w_X3_leave cyI cyJ cyZ qE q_por q_confs q_near q_leads q_agrees q_answers q_hopes q_opens q_most q_ready rRules rCount leads opens most ready)) (hS : va_S A s.heap H locs) (hl : lv_has ls 6 [(0, .ref qE), (1, .int x1), (2, .int x2)]) : W p l e rm_X3_leave s m args below meth c H locs 0 0 (MQ below (Qzi dC dI cyI cyJ cyZ A (w_X3_leave cyI cyJ cyZ qE q_por q_confs q_near q_leads q_agrees q_answers q_hopes q_opens q_most q_ready rRules rCount leads opens9 most9 ready9) r9) args s 0 0 A) (F0 m 0 ls []) := by
  have C1 := C0
  obtain ⟨hx, hb, hr, hlocks, hml, hown, hts, hA, hK⟩ := C1
  unfold f_X3_leave at hf
  refine lv_iload_n hx hb dX3_leave_0 rfl (lv_at hl 2 rfl) ?_
  refine lv_istore_n (lv' := [(3, .int x2), (0, .ref qE), (1, .int x1), (2, .int x2)]) hx hb dX3_leave_1 rfl hl (by decide) rfl (fun ls hl => ?_)
  refine lv_iconst (v := 0) hx hb dX3_leave_2 (by decide) ?_
  refine lv_istore (lv' := [(4, .int 0), (3, .int x2), (0, .ref qE), (1, .int x1), (2, .int x2)]) hx hb dX3_leave_3 hl (by decide) rfl (fun ls hl => ?_)
  obtain ⟨x3_21, opens_22, most_23, ready_24, hlp, hf⟩ := bd4_el hf
  refine l_X3_leave_b5 C0 hXs (fun x3_21 opens_22 most_23 ready_24 q9 H locs ls hP hD hS hl => ?_) N _ _ _ _ _ hlp H locs ls hP hD hS (lv_sub hl [2, 3, 1, 0] rfl)
  cases q9
  refine lv_iload_n hx hb dX3_leave_98 rfl (lv_at hl 0 rfl) ?_
  cases hf
  exact W.iret hx hb hr (fun t ht hW => ⟨⟨_, (), rfl, rfl, by rw [ht]; exact hP, va_K.moved hW.alike hK, hD⟩, hS.F ht⟩) hS.2.2 dX3_leave_99
set_option maxHeartbeats 4000000 in
set_option maxRecDepth 100000 in
theorem c_X3_leave (l : Launch) (dC : Nat → ClassId) (dI : Nat → Nat → Nat) (cyI cyJ cyZ : ClassId) (qE q_por q_confs q_near q_leads q_agrees q_answers q_hopes q_opens q_most q_ready : Nat) (sz N : Nat) (x1 : Int32) (x2 : Int32) (rRules : Int32) (leads : Nat → Int32) (opens : Nat → Int32) (most : Nat → Int32) (ready : Nat → Int32) (rCount : Int32) (r9 : Int32) (opens9 : Nat → Int32) (most9 : Nat → Int32) (ready9 : Nat → Int32) (hf : f_X3_leave N x1 x2 rRules leads opens most ready = some (r9, opens9, most9, ready9)) : Met l yX3_leave wsX3_leave rm_X3_leave (Pz dC dI cyI cyJ cyZ [.ref qE, .int x1, .int x2] sz (w_X3_leave cyI cyJ cyZ qE q_por q_confs q_near q_leads q_agrees q_answers q_hopes q_opens q_most q_ready rRules rCount leads opens most ready) X0) (Qzi dC dI cyI cyJ cyZ (va_A (w_X3_leave cyI cyJ cyZ qE q_por q_confs q_near q_leads q_agrees q_answers q_hopes q_opens q_most q_ready rRules rCount leads opens most ready) sz) (w_X3_leave cyI cyJ cyZ qE q_por q_confs q_near q_leads q_agrees q_answers q_hopes q_opens q_most q_ready rRules rCount leads opens9 most9 ready9) r9) 0 0 (va_A (w_X3_leave cyI cyJ cyZ qE q_por q_confs q_near q_leads q_agrees q_answers q_hopes q_opens q_most q_ready rRules rCount leads opens most ready) sz) := by
  refine Met_of (cc := cX3_leave) (maxL := 6) (ret := (some .int)) (by decide) rfl (Nat.le_of_ble_eq_true rfl) ?_
  intro p e s m args below meth c ls C0 hsz hXs hP hD hS hl
  exact t_X3_leave C0 hXs hf s.heap [] ls hP hD hS hl
abbrev w_X3_mostChanges (cyI cyJ cyZ : ClassId) (qE q_por q_confs q_near q_leads q_agrees q_answers q_hopes q_opens q_most q_ready : Nat) (rRules : Int32) (rCount : Int32) (leads : Nat → Int32) (opens : Nat → Int32) (most : Nat → Int32) (ready : Nat → Int32) : va_W := [(qE, .inr (2, [.ref q_por, .ref q_confs, .ref q_near, .ref q_leads, .ref q_agrees, .ref q_answers, .ref q_hopes, .ref q_opens, .ref q_most, .ref q_ready, .int rRules, .int rCount])), (q_leads, .inl (cyI, 5544, .inl leads)), (q_opens, .inl (cyI, 462, .inl opens)), (q_most, .inl (cyI, 462, .inl most)), (q_ready, .inl (cyI, 462, .inl ready))]
abbrev rm_X3_mostChanges : Room := { frames := 2, cells := 0, slots := 0, locals := 49 }
theorem hn_X3_mostChanges_X3 : ∀ w ∈ wsX30, w ∈ wsX3_mostChanges := fun _ h => List.mem_cons_of_mem _ (List.mem_append_right _ h)
def f_X3_mostChanges_b28 (N : Nat) (rRules : Int32) (rCount : Int32) (leads : Nat → Int32) (x1 : Int32) (x2 : Int32) (x3 : Int32) (opens : Nat → Int32) (most : Nat → Int32) (ready : Nat → Int32) : Option ((Int32 × Int32 × Int32 × (Nat → Int32) × (Nat → Int32) × (Nat → Int32)) ⊕ (Int32 × Int32 × (Nat → Int32) × (Nat → Int32) × (Nat → Int32))) :=
  (if x1 ≤ x3 then some (Sum.inr (x1, x2, opens, most, ready)) else (if 462 ≤ x3 then some (Sum.inr (x1, x2, opens, most, ready)) else gd (inb x3 462) (gd (inb (ready x3.toNatClampNeg) 462) (nm (if x2 < (most (ready x3.toNatClampNeg).toNatClampNeg) then (most (ready x3.toNatClampNeg).toNatClampNeg) else x2) (fun x2_9 => gd (inb x3 462) (bd4 (f_X3_leave N (ready x3.toNatClampNeg) x1 rRules leads opens most ready) (fun r_11 opens_12 most_13 ready_14 => nm (x3 + 1) (fun x3_15 => some (Sum.inl (r_11, x2_9, x3_15, opens_12, most_13, ready_14))))))))))
set_option maxHeartbeats 4000000 in
set_option maxRecDepth 100000 in
theorem t_X3_mostChanges_b28 (C0 : Cx p s m args meth c cX3_mostChanges (some .int) 4 RX3 wsX3_mostChanges A dC dI cyI cyJ cyZ) {qE q_por q_confs q_near q_leads q_agrees q_answers q_hopes q_opens q_most q_ready : Nat} (hXs : X0 A s) {N : Nat} {rRules : Int32} {rCount : Int32} {leads : Nat → Int32} {x1 : Int32} {x2 : Int32} {x3 : Int32} {opens : Nat → Int32} {most : Nat → Int32} {ready : Nat → Int32} {r9 : Int32} {opens9 : Nat → Int32} {most9 : Nat → Int32} {ready9 : Nat → Int32} {r : (Int32 × Int32 × Int32 × (Nat → Int32) × (Nat → Int32) × (Nat → Int32)) ⊕ (Int32 × Int32 × (Nat → Int32) × (Nat → Int32) × (Nat → Int32))} (hf : f_X3_mostChanges_b28 N rRules rCount leads x1 x2 x3 opens most ready = some r) (Kh : ∀ (zx1 : Int32) (zx2 : Int32) (zx3 : Int32) (zopens : Nat → Int32) (zmost : Nat → Int32) (zready : Nat → Int32), r = Sum.inl (zx1, zx2, zx3, zopens, zmost, zready) → ∀ (H : Heap) (locs : List Loc) (ls : Array Slot), va_P (dC, dI) vwCl (w_X3_mostChanges cyI cyJ cyZ qE q_por q_confs q_near q_leads q_agrees q_answers q_hopes q_opens q_most q_ready rRules rCount leads zopens zmost zready) H → va_D A (w_X3_mostChanges cyI cyJ cyZ qE q_por q_confs q_near q_leads q_agrees q_answers q_hopes q_opens q_most q_ready rRules rCount leads zopens zmost zready) → va_S A s.heap H locs → lv_has ls 4 [(0, .ref qE), (1, .int zx1), (2, .int zx2), (3, .int zx3)] → W p l e rm_X3_mostChanges s m args below meth c H locs 0 0 (MQ below (Qzi dC dI cyI cyJ cyZ A (w_X3_mostChanges cyI cyJ cyZ qE q_por q_confs q_near q_leads q_agrees q_answers q_hopes q_opens q_most q_ready rRules rCount leads opens9 most9 ready9) r9) args s 0 0 A) (F0 m 28 ls [])) (Ke : ∀ (zx1 : Int32) (zx2 : Int32) (zopens : Nat → Int32) (zmost : Nat → Int32) (zready : Nat → Int32), r = Sum.inr (zx1, zx2, zopens, zmost, zready) → ∀ (H : Heap) (locs : List Loc) (ls : Array Slot), va_P (dC, dI) vwCl (w_X3_mostChanges cyI cyJ cyZ qE q_por q_confs q_near q_leads q_agrees q_answers q_hopes q_opens q_most q_ready rRules rCount leads zopens zmost zready) H → va_D A (w_X3_mostChanges cyI cyJ cyZ qE q_por q_confs q_near q_leads q_agrees q_answers q_hopes q_opens q_most q_ready rRules rCount leads zopens zmost zready) → va_S A s.heap H locs → lv_has ls 4 [(0, .ref qE), (1, .int zx1), (2, .int zx2)] → W p l e rm_X3_mostChanges s m args below meth c H locs 0 0 (MQ below (Qzi dC dI cyI cyJ cyZ A (w_X3_mostChanges cyI cyJ cyZ qE q_por q_confs q_near q_leads q_agrees q_answers q_hopes q_opens q_most q_ready rRules rCount leads opens9 most9 ready9) r9) args s 0 0 A) (F0 m 74 ls [])) (H : Heap) (locs : List Loc) (ls : Array Slot) (hP : va_P (dC, dI) vwCl (w_X3_mostChanges cyI cyJ cyZ qE q_por q_confs q_near q_leads q_agrees q_answers q_hopes q_opens q_most q_ready rRules rCount leads opens most ready) H) (hD : va_D A (w_X3_mostChanges cyI cyJ cyZ qE q_por q_confs q_near q_leads q_agrees q_answers q_hopes q_opens q_most q_ready rRules rCount leads opens most ready)) (hS : va_S A s.heap H locs) (hl : lv_has ls 4 [(0, .ref qE), (1, .int x1), (2, .int x2), (3, .int x3)]) : W p l e rm_X3_mostChanges s m args below meth c H locs 0 0 (MQ below (Qzi dC dI cyI cyJ cyZ A (w_X3_mostChanges cyI cyJ cyZ qE q_por q_confs q_near q_leads q_agrees q_answers q_hopes q_opens q_most q_ready rRules rCount leads opens9 most9 ready9) r9) args s 0 0 A) (F0 m 28 ls []) := by
  have C1 := C0
  obtain ⟨hx, hb, hr, hlocks, hml, hown, hts, hA, hK⟩ := C1
  unfold f_X3_mostChanges_b28 at hf
  refine lv_iload_n hx hb dX3_mostChanges_28 rfl (lv_at hl 3 rfl) ?_
  refine lv_iload_n hx hb dX3_mostChanges_29 rfl (lv_at hl 1 rfl) ?_
  refine lv_icmp_ge (tgt := 74) hx hb dX3_mostChanges_30 (by decide) (fun c_5 => ?_) (fun c_5 => ?_)
  · replace hf := it_t hf c_5
    exact Ke _ _ _ _ _ (Option.some.inj hf).symm H locs ls hP hD hS (lv_sub hl [0, 1, 2] rfl)
  · replace hf := it_f hf c_5
    refine lv_iload_n hx hb dX3_mostChanges_33 rfl (lv_at hl 3 rfl) ?_
    refine lv_sipush (v := 462) hx hb dX3_mostChanges_34 (by decide) ?_
    refine lv_icmp_ge (tgt := 74) hx hb dX3_mostChanges_37 (by decide) (fun c_6 => ?_) (fun c_6 => ?_)
    · replace hf := it_t hf c_6
      exact Ke _ _ _ _ _ (Option.some.inj hf).symm H locs ls hP hD hS (lv_sub hl [0, 1, 2] rfl)
    · replace hf := it_f hf c_6
      refine lv_iload_n hx hb dX3_mostChanges_40 rfl (lv_at hl 2 rfl) ?_
      refine lv_aload_n hx hb dX3_mostChanges_41 rfl (lv_at hl 0 rfl) ?_
      refine va_get (D := (dC, dI)) (ci := 2) (v := .ref q_most) (C := RX3) (T := TX3) (N := 12) hx hb hts hn_X3_mostChanges_X3 hown hK hP 0 rfl rfl 8 (by decide) (hts (.fieldLink RX3 39 "MetAgents$Reach" "most" "[I") (List.mem_of_getElem? (i := 3) rfl)) (fun _ h9 => h9) rfl dX3_mostChanges_42 ?_
      refine lv_aload_n hx hb dX3_mostChanges_45 rfl (lv_at hl 0 rfl) ?_
      refine va_get (D := (dC, dI)) (ci := 2) (v := .ref q_ready) (C := RX3) (T := TX3) (N := 12) hx hb hts hn_X3_mostChanges_X3 hown hK hP 0 rfl rfl 9 (by decide) (hts (.fieldLink RX3 42 "MetAgents$Reach" "ready" "[I") (List.mem_of_getElem? (i := 2) rfl)) (fun _ h9 => h9) rfl dX3_mostChanges_46 ?_
      refine lv_iload_n hx hb dX3_mostChanges_49 rfl (lv_at hl 3 rfl) ?_
      obtain ⟨h_7, hf⟩ := gd_el hf
      refine va_iald hx hb hK hP 4 0 rfl rfl (inb_in h_7) dX3_mostChanges_50 ?_
      obtain ⟨h_8, hf⟩ := gd_el hf
      refine va_iald hx hb hK hP 3 0 rfl rfl (inb_in h_8) dX3_mostChanges_51 ?_
      refine va_mmax hx hb (by rw [hml]; exact hl.1.symm) hown (hts (.methodLink RX3 119 Lib.Math.max.name) (List.mem_of_getElem? (i := 4) rfl)) (hts (.static Lib.Math.max.name) (List.mem_of_getElem? (i := 5) rfl)) (hts (.initialized "java/lang/Math") (List.mem_of_getElem? (i := 6) rfl)) (hts (.code Lib.Math.max.name Lib.Math.max.code 2 (some .int)) (List.mem_of_getElem? (i := 7) rfl)) (Nat.le_of_ble_eq_true rfl) (Nat.le_of_ble_eq_true rfl) (Nat.zero_le _) (Nat.zero_le _) dX3_mostChanges_52 ?_
      obtain ⟨x2_9, e_9, hf⟩ := nm_el hf
      refine top_i e_9 ?_
      refine lv_istore_n (lv' := [(2, .int x2_9), (0, .ref qE), (1, .int x1), (3, .int x3)]) hx hb dX3_mostChanges_55 rfl hl (by decide) rfl (fun ls hl => ?_)
      refine lv_aload_n hx hb dX3_mostChanges_56 rfl (lv_at hl 1 rfl) ?_
      refine lv_aload_n hx hb dX3_mostChanges_57 rfl (lv_at hl 1 rfl) ?_
      refine va_get (D := (dC, dI)) (ci := 2) (v := .ref q_ready) (C := RX3) (T := TX3) (N := 12) hx hb hts hn_X3_mostChanges_X3 hown hK hP 0 rfl rfl 9 (by decide) (hts (.fieldLink RX3 42 "MetAgents$Reach" "ready" "[I") (List.mem_of_getElem? (i := 2) rfl)) (fun _ h9 => h9) rfl dX3_mostChanges_58 ?_
      refine lv_iload_n hx hb dX3_mostChanges_61 rfl (lv_at hl 3 rfl) ?_
      obtain ⟨h_10, hf⟩ := gd_el hf
      refine va_iald hx hb hK hP 4 0 rfl rfl (inb_in h_10) dX3_mostChanges_62 ?_
      refine lv_iload_n hx hb dX3_mostChanges_63 rfl (lv_at hl 2 rfl) ?_
      obtain ⟨r_11, opens_12, most_13, ready_14, hc, hf⟩ := bd4_el hf
      refine cl_i (wc := (w_X3_leave cyI cyJ cyZ qE q_por q_confs q_near q_leads q_agrees q_answers q_hopes q_opens q_most q_ready rRules rCount leads opens most ready)) (wr := []) (w1 := (w_X3_leave cyI cyJ cyZ qE q_por q_confs q_near q_leads q_agrees q_answers q_hopes q_opens q_most q_ready rRules rCount leads opens_12 most_13 ready_14)) (w2 := (w_X3_mostChanges cyI cyJ cyZ qE q_por q_confs q_near q_leads q_agrees q_answers q_hopes q_opens q_most q_ready rRules rCount leads opens_12 most_13 ready_14)) C0 (rn_V (As := [.int (ready x3.toNatClampNeg), .int x1]) (rest := []) (wc := (w_X3_leave cyI cyJ cyZ qE q_por q_confs q_near q_leads q_agrees q_answers q_hopes q_opens q_most q_ready rRules rCount leads opens most ready)) (X := X0) C0 (c_X3_leave l dC dI cyI cyJ cyZ qE q_por q_confs q_near q_leads q_agrees q_answers q_hopes q_opens q_most q_ready H.size N (ready x3.toNatClampNeg) x1 rRules leads opens most ready rCount r_11 opens_12 most_13 ready_14 hc) (cwV 2 hts gX3_mostChanges_X3_leave rfl rfl rfl (by decide +kernel) ⟨Nat.le_of_ble_eq_true rfl, Nat.le_of_ble_eq_true rfl⟩) X0_car trivial hP hD hS [0, 1, 2, 3, 4] rfl rfl 0 2 rfl rfl rfl hl.1 rfl (Nat.le_of_ble_eq_true rfl) dX3_mostChanges_64 ⟨Nat.le_of_ble_eq_true rfl, Nat.le_of_ble_eq_true rfl⟩) hP hD hS [0, 1, 2, 3, 4] [] [0, 1, 2, 3, 4] rfl rfl rfl (by decide) rfl rfl (fun H locs hP hD hS => ?_)
      refine lv_istore_n (lv' := [(1, .int r_11), (2, .int x2_9), (0, .ref qE), (3, .int x3)]) hx hb dX3_mostChanges_67 rfl hl (by decide) rfl (fun ls hl => ?_)
      obtain ⟨x3_15, e_15, hf⟩ := nm_el hf
      refine lv_iinc (v := x3_15) (lv' := [(3, .int x3_15), (1, .int r_11), (2, .int x2_9), (0, .ref qE)]) hx hb dX3_mostChanges_68 hl (k := 3) rfl (by rw [e_15]; rfl) (by decide) rfl (fun ls hl => ?_)
      refine lv_goto (tgt := 28) hx hb dX3_mostChanges_71 (by decide) ?_
      exact Kh _ _ _ _ _ _ (Option.some.inj hf).symm H locs ls hP hD hS (lv_sub hl [3, 1, 2, 0] rfl)
set_option maxHeartbeats 4000000 in
set_option maxRecDepth 100000 in
theorem l_X3_mostChanges_b28 (C0 : Cx p s m args meth c cX3_mostChanges (some .int) 4 RX3 wsX3_mostChanges A dC dI cyI cyJ cyZ) {qE q_por q_confs q_near q_leads q_agrees q_answers q_hopes q_opens q_most q_ready : Nat} (hXs : X0 A s) {N : Nat} {rRules : Int32} {rCount : Int32} {leads : Nat → Int32} {r9 : Int32} {opens9 : Nat → Int32} {most9 : Nat → Int32} {ready9 : Nat → Int32} {z : Int32 × Int32 × (Nat → Int32) × (Nat → Int32) × (Nat → Int32)} (Ke : ∀ (zx1 : Int32) (zx2 : Int32) (zopens : Nat → Int32) (zmost : Nat → Int32) (zready : Nat → Int32), z = (zx1, zx2, zopens, zmost, zready) → ∀ (H : Heap) (locs : List Loc) (ls : Array Slot), va_P (dC, dI) vwCl (w_X3_mostChanges cyI cyJ cyZ qE q_por q_confs q_near q_leads q_agrees q_answers q_hopes q_opens q_most q_ready rRules rCount leads zopens zmost zready) H → va_D A (w_X3_mostChanges cyI cyJ cyZ qE q_por q_confs q_near q_leads q_agrees q_answers q_hopes q_opens q_most q_ready rRules rCount leads zopens zmost zready) → va_S A s.heap H locs → lv_has ls 4 [(0, .ref qE), (1, .int zx1), (2, .int zx2)] → W p l e rm_X3_mostChanges s m args below meth c H locs 0 0 (MQ below (Qzi dC dI cyI cyJ cyZ A (w_X3_mostChanges cyI cyJ cyZ qE q_por q_confs q_near q_leads q_agrees q_answers q_hopes q_opens q_most q_ready rRules rCount leads opens9 most9 ready9) r9) args s 0 0 A) (F0 m 74 ls [])) : ∀ (n9 : Nat) (x1 : Int32) (x2 : Int32) (x3 : Int32) (opens : Nat → Int32) (most : Nat → Int32) (ready : Nat → Int32), loopN (fun (w9 : Int32 × Int32 × Int32 × (Nat → Int32) × (Nat → Int32) × (Nat → Int32)) => f_X3_mostChanges_b28 N rRules rCount leads w9.1 w9.2.1 w9.2.2.1 w9.2.2.2.1 w9.2.2.2.2.1 w9.2.2.2.2.2) n9 (x1, x2, x3, opens, most, ready) = some z → ∀ (H : Heap) (locs : List Loc) (ls : Array Slot), va_P (dC, dI) vwCl (w_X3_mostChanges cyI cyJ cyZ qE q_por q_confs q_near q_leads q_agrees q_answers q_hopes q_opens q_most q_ready rRules rCount leads opens most ready) H → va_D A (w_X3_mostChanges cyI cyJ cyZ qE q_por q_confs q_near q_leads q_agrees q_answers q_hopes q_opens q_most q_ready rRules rCount leads opens most ready) → va_S A s.heap H locs → lv_has ls 4 [(0, .ref qE), (1, .int x1), (2, .int x2), (3, .int x3)] → W p l e rm_X3_mostChanges s m args below meth c H locs 0 0 (MQ below (Qzi dC dI cyI cyJ cyZ A (w_X3_mostChanges cyI cyJ cyZ qE q_por q_confs q_near q_leads q_agrees q_answers q_hopes q_opens q_most q_ready rRules rCount leads opens9 most9 ready9) r9) args s 0 0 A) (F0 m 28 ls []) := by
  intro n9
  induction n9 with
  | zero => intro _ _ _ _ _ _ h; cases h
  | succ n9 ih =>
    intro x1 x2 x3 opens most ready h H locs ls hP hD hS hl
    rcases loopN_el h with ⟨y9, h1, h2⟩ | h1
    · exact t_X3_mostChanges_b28 C0 hXs  h1 (fun zx1 zx2 zx3 zopens zmost zready q9 H locs ls hP hD hS hl => ih zx1 zx2 zx3 zopens zmost zready (by cases q9; exact h2) H locs ls hP hD hS hl) (fun _ _ _ _ _ q9 => by cases q9) H locs ls hP hD hS hl
    · exact t_X3_mostChanges_b28 C0 hXs  h1 (fun _ _ _ _ _ _ q9 => by cases q9) (fun ex1 ex2 eopens emost eready q9 => Ke ex1 ex2 eopens emost eready (by cases q9; rfl)) H locs ls hP hD hS hl
def f_X3_mostChanges_j74 (N : Nat) (x1 : Int32) (x2 : Int32) (rRules : Int32) (rCount : Int32) (leads : Nat → Int32) (opens : Nat → Int32) (most : Nat → Int32) (ready : Nat → Int32) : Option (Int32 × (Nat → Int32) × (Nat → Int32) × (Nat → Int32)) :=
  (if rCount ≤ x1 then some (x2, opens, most, ready) else some ((-9), opens, most, ready))
set_option maxHeartbeats 4000000 in
set_option maxRecDepth 100000 in
theorem t_X3_mostChanges_j74 (C0 : Cx p s m args meth c cX3_mostChanges (some .int) 4 RX3 wsX3_mostChanges A dC dI cyI cyJ cyZ) {qE q_por q_confs q_near q_leads q_agrees q_answers q_hopes q_opens q_most q_ready : Nat} (hXs : X0 A s) {N : Nat} {x1 : Int32} {x2 : Int32} {rRules : Int32} {rCount : Int32} {leads : Nat → Int32} {opens : Nat → Int32} {most : Nat → Int32} {ready : Nat → Int32} {r9 : Int32} {opens9 : Nat → Int32} {most9 : Nat → Int32} {ready9 : Nat → Int32} (hf : f_X3_mostChanges_j74 N x1 x2 rRules rCount leads opens most ready = some (r9, opens9, most9, ready9)) (H : Heap) (locs : List Loc) (ls : Array Slot) (hP : va_P (dC, dI) vwCl (w_X3_mostChanges cyI cyJ cyZ qE q_por q_confs q_near q_leads q_agrees q_answers q_hopes q_opens q_most q_ready rRules rCount leads opens most ready) H) (hD : va_D A (w_X3_mostChanges cyI cyJ cyZ qE q_por q_confs q_near q_leads q_agrees q_answers q_hopes q_opens q_most q_ready rRules rCount leads opens most ready)) (hS : va_S A s.heap H locs) (hl : lv_has ls 4 [(0, .ref qE), (1, .int x1), (2, .int x2)]) : W p l e rm_X3_mostChanges s m args below meth c H locs 0 0 (MQ below (Qzi dC dI cyI cyJ cyZ A (w_X3_mostChanges cyI cyJ cyZ qE q_por q_confs q_near q_leads q_agrees q_answers q_hopes q_opens q_most q_ready rRules rCount leads opens9 most9 ready9) r9) args s 0 0 A) (F0 m 74 ls []) := by
  have C1 := C0
  obtain ⟨hx, hb, hr, hlocks, hml, hown, hts, hA, hK⟩ := C1
  unfold f_X3_mostChanges_j74 at hf
  refine lv_iload_n hx hb dX3_mostChanges_74 rfl (lv_at hl 1 rfl) ?_
  refine lv_aload_n hx hb dX3_mostChanges_75 rfl (lv_at hl 0 rfl) ?_
  refine va_get (D := (dC, dI)) (ci := 2) (v := .int rCount) (C := RX3) (T := TX3) (N := 12) hx hb hts hn_X3_mostChanges_X3 hown hK hP 0 rfl rfl 11 (by decide) (hts (.fieldLink RX3 60 "MetAgents$Reach" "count" "I") (List.mem_of_getElem? (i := 8) rfl)) (fun _ h9 => h9) rfl dX3_mostChanges_76 ?_
  refine lv_icmp_ge (tgt := 87) hx hb dX3_mostChanges_79 (by decide) (fun c_21 => ?_) (fun c_21 => ?_)
  · replace hf := it_t hf c_21
    refine lv_iload_n hx hb dX3_mostChanges_87 rfl (lv_at hl 2 rfl) ?_
    cases hf
    exact W.iret hx hb hr (fun t ht hW => ⟨⟨_, (), rfl, rfl, by rw [ht]; exact hP, va_K.moved hW.alike hK, hD⟩, hS.F ht⟩) hS.2.2 dX3_mostChanges_88
  · replace hf := it_f hf c_21
    refine lv_bipush (v := (-9)) hx hb dX3_mostChanges_82 (by decide) ?_
    refine lv_goto (tgt := 88) hx hb dX3_mostChanges_84 (by decide) ?_
    cases hf
    exact W.iret hx hb hr (fun t ht hW => ⟨⟨_, (), rfl, rfl, by rw [ht]; exact hP, va_K.moved hW.alike hK, hD⟩, hS.F ht⟩) hS.2.2 dX3_mostChanges_88
def f_X3_mostChanges (N : Nat) (rRules : Int32) (rCount : Int32) (leads : Nat → Int32) (opens : Nat → Int32) (most : Nat → Int32) (ready : Nat → Int32) : Option (Int32 × (Nat → Int32) × (Nat → Int32) × (Nat → Int32)) :=
  bd2 (f_X3_countOpen N rRules rCount leads opens most) (fun opens_1 most_2 => gd (inb 0 462) ((if (opens_1 (0 : Int32).toNatClampNeg) = 0 then gd (inb 0 462) (nm (upd ready (0 : Int32).toNatClampNeg 0) (fun ready_23 => bd5 (loopN (fun (w9 : Int32 × Int32 × Int32 × (Nat → Int32) × (Nat → Int32) × (Nat → Int32)) => f_X3_mostChanges_b28 N rRules rCount leads w9.1 w9.2.1 w9.2.2.1 w9.2.2.2.1 w9.2.2.2.2.1 w9.2.2.2.2.2) N (1, 0, 0, opens_1, most_2, ready_23)) (fun x1_24 x2_25 opens_26 most_27 ready_28 => f_X3_mostChanges_j74 N x1_24 x2_25 rRules rCount leads opens_26 most_27 ready_28))) else bd5 (loopN (fun (w9 : Int32 × Int32 × Int32 × (Nat → Int32) × (Nat → Int32) × (Nat → Int32)) => f_X3_mostChanges_b28 N rRules rCount leads w9.1 w9.2.1 w9.2.2.1 w9.2.2.2.1 w9.2.2.2.2.1 w9.2.2.2.2.2) N (0, 0, 0, opens_1, most_2, ready)) (fun x1_16 x2_17 opens_18 most_19 ready_20 => f_X3_mostChanges_j74 N x1_16 x2_17 rRules rCount leads opens_18 most_19 ready_20))))
set_option maxHeartbeats 4000000 in
set_option maxRecDepth 100000 in
theorem t_X3_mostChanges (C0 : Cx p s m args meth c cX3_mostChanges (some .int) 4 RX3 wsX3_mostChanges A dC dI cyI cyJ cyZ) {qE q_por q_confs q_near q_leads q_agrees q_answers q_hopes q_opens q_most q_ready : Nat} (hXs : X0 A s) {N : Nat} {rRules : Int32} {rCount : Int32} {leads : Nat → Int32} {opens : Nat → Int32} {most : Nat → Int32} {ready : Nat → Int32} {r9 : Int32} {opens9 : Nat → Int32} {most9 : Nat → Int32} {ready9 : Nat → Int32} (hf : f_X3_mostChanges N rRules rCount leads opens most ready = some (r9, opens9, most9, ready9)) (H : Heap) (locs : List Loc) (ls : Array Slot) (hP : va_P (dC, dI) vwCl (w_X3_mostChanges cyI cyJ cyZ qE q_por q_confs q_near q_leads q_agrees q_answers q_hopes q_opens q_most q_ready rRules rCount leads opens most ready) H) (hD : va_D A (w_X3_mostChanges cyI cyJ cyZ qE q_por q_confs q_near q_leads q_agrees q_answers q_hopes q_opens q_most q_ready rRules rCount leads opens most ready)) (hS : va_S A s.heap H locs) (hl : lv_has ls 4 [(0, .ref qE)]) : W p l e rm_X3_mostChanges s m args below meth c H locs 0 0 (MQ below (Qzi dC dI cyI cyJ cyZ A (w_X3_mostChanges cyI cyJ cyZ qE q_por q_confs q_near q_leads q_agrees q_answers q_hopes q_opens q_most q_ready rRules rCount leads opens9 most9 ready9) r9) args s 0 0 A) (F0 m 0 ls []) := by
  have C1 := C0
  obtain ⟨hx, hb, hr, hlocks, hml, hown, hts, hA, hK⟩ := C1
  unfold f_X3_mostChanges at hf
  refine lv_aload_n hx hb dX3_mostChanges_0 rfl (lv_at hl 0 rfl) ?_
  obtain ⟨opens_1, most_2, hc, hf⟩ := bd2_el hf
  refine cl_v (wc := (w_X3_countOpen cyI cyJ cyZ qE q_por q_confs q_near q_leads q_agrees q_answers q_hopes q_opens q_most q_ready rRules rCount leads opens most)) (wr := [(q_ready, .inl (cyI, 462, .inl ready))]) (w1 := (w_X3_countOpen cyI cyJ cyZ qE q_por q_confs q_near q_leads q_agrees q_answers q_hopes q_opens q_most q_ready rRules rCount leads opens_1 most_2)) (w2 := (w_X3_mostChanges cyI cyJ cyZ qE q_por q_confs q_near q_leads q_agrees q_answers q_hopes q_opens q_most q_ready rRules rCount leads opens_1 most_2 ready)) C0 (rn_V (As := []) (rest := []) (wc := (w_X3_countOpen cyI cyJ cyZ qE q_por q_confs q_near q_leads q_agrees q_answers q_hopes q_opens q_most q_ready rRules rCount leads opens most)) (X := X0) C0 (c_X3_countOpen l dC dI cyI cyJ cyZ qE q_por q_confs q_near q_leads q_agrees q_answers q_hopes q_opens q_most q_ready H.size N rRules rCount leads opens most opens_1 most_2 hc) (cwV 0 hts gX3_mostChanges_X3_countOpen rfl rfl rfl (by decide +kernel) ⟨Nat.le_of_ble_eq_true rfl, Nat.le_of_ble_eq_true rfl⟩) X0_car trivial hP hD hS [0, 1, 2, 3] rfl rfl 0 2 rfl rfl rfl hl.1 rfl (Nat.le_of_ble_eq_true rfl) dX3_mostChanges_1 ⟨Nat.le_of_ble_eq_true rfl, Nat.le_of_ble_eq_true rfl⟩) hP hD hS [0, 1, 2, 3] [4] [1, 2, 3, 4, 0] rfl rfl rfl (by decide) rfl rfl (fun H locs hP hD hS => ?_)
  refine lv_iconst (v := 0) hx hb dX3_mostChanges_4 (by decide) ?_
  refine lv_istore_n (lv' := [(1, .int 0), (0, .ref qE)]) hx hb dX3_mostChanges_5 rfl hl (by decide) rfl (fun ls hl => ?_)
  refine lv_aload_n hx hb dX3_mostChanges_6 rfl (lv_at hl 1 rfl) ?_
  refine va_get (D := (dC, dI)) (ci := 2) (v := .ref q_opens) (C := RX3) (T := TX3) (N := 12) hx hb hts hn_X3_mostChanges_X3 hown hK hP 0 rfl rfl 7 (by decide) (hts (.fieldLink RX3 36 "MetAgents$Reach" "open" "[I") (List.mem_of_getElem? (i := 1) rfl)) (fun _ h9 => h9) rfl dX3_mostChanges_7 ?_
  refine lv_iconst (v := 0) hx hb dX3_mostChanges_10 (by decide) ?_
  obtain ⟨h_3, hf⟩ := gd_el hf
  refine va_iald hx hb hK hP 2 0 rfl rfl (inb_in h_3) dX3_mostChanges_11 ?_
  refine lv_if_ne (tgt := 24) hx hb dX3_mostChanges_12 (by decide) (fun c_4 => ?_) (fun c_4 => ?_)
  · replace hf := it_f hf c_4
    refine lv_iconst (v := 0) hx hb dX3_mostChanges_24 (by decide) ?_
    refine lv_istore_n (lv' := [(2, .int 0), (1, .int 0), (0, .ref qE)]) hx hb dX3_mostChanges_25 rfl hl (by decide) rfl (fun ls hl => ?_)
    refine lv_iconst (v := 0) hx hb dX3_mostChanges_26 (by decide) ?_
    refine lv_istore_n (lv' := [(3, .int 0), (2, .int 0), (1, .int 0), (0, .ref qE)]) hx hb dX3_mostChanges_27 rfl hl (by decide) rfl (fun ls hl => ?_)
    obtain ⟨x1_16, x2_17, opens_18, most_19, ready_20, hlp, hf⟩ := bd5_el hf
    refine l_X3_mostChanges_b28 C0 hXs (fun x1_16 x2_17 opens_18 most_19 ready_20 q9 H locs ls hP hD hS hl => ?_) N _ _ _ _ _ _ hlp H locs ls hP hD hS (lv_sub hl [3, 2, 1, 0] rfl)
    cases q9
    exact t_X3_mostChanges_j74 C0 hXs hf H locs ls hP hD hS (lv_sub hl [0, 1, 2] rfl)
  · replace hf := it_t hf c_4
    refine lv_aload_n hx hb dX3_mostChanges_15 rfl (lv_at hl 1 rfl) ?_
    refine va_get (D := (dC, dI)) (ci := 2) (v := .ref q_ready) (C := RX3) (T := TX3) (N := 12) hx hb hts hn_X3_mostChanges_X3 hown hK hP 0 rfl rfl 9 (by decide) (hts (.fieldLink RX3 42 "MetAgents$Reach" "ready" "[I") (List.mem_of_getElem? (i := 2) rfl)) (fun _ h9 => h9) rfl dX3_mostChanges_16 ?_
    refine lv_iconst (v := 0) hx hb dX3_mostChanges_19 (by decide) ?_
    refine lv_iconst (v := 0) hx hb dX3_mostChanges_20 (by decide) ?_
    obtain ⟨h_22, hf⟩ := gd_el hf
    obtain ⟨ready_23, e_23, hf⟩ := nm_el hf
    refine ast_i (w2 := (w_X3_mostChanges cyI cyJ cyZ qE q_por q_confs q_near q_leads q_agrees q_answers q_hopes q_opens q_most q_ready rRules rCount leads opens_1 most_2 ready_23)) hx hb hK hP hD hS 4 0 rfl rfl (inb_in h_22) e_23 rfl dX3_mostChanges_21 (fun H locs hP hD hS => ?_)
    refine lv_iconst (v := 1) hx hb dX3_mostChanges_22 (by decide) ?_
    refine lv_istore_n (lv' := [(1, .int 1), (0, .ref qE)]) hx hb dX3_mostChanges_23 rfl hl (by decide) rfl (fun ls hl => ?_)
    refine lv_iconst (v := 0) hx hb dX3_mostChanges_24 (by decide) ?_
    refine lv_istore_n (lv' := [(2, .int 0), (1, .int 1), (0, .ref qE)]) hx hb dX3_mostChanges_25 rfl hl (by decide) rfl (fun ls hl => ?_)
    refine lv_iconst (v := 0) hx hb dX3_mostChanges_26 (by decide) ?_
    refine lv_istore_n (lv' := [(3, .int 0), (2, .int 0), (1, .int 1), (0, .ref qE)]) hx hb dX3_mostChanges_27 rfl hl (by decide) rfl (fun ls hl => ?_)
    obtain ⟨x1_24, x2_25, opens_26, most_27, ready_28, hlp, hf⟩ := bd5_el hf
    refine l_X3_mostChanges_b28 C0 hXs (fun x1_24 x2_25 opens_26 most_27 ready_28 q9 H locs ls hP hD hS hl => ?_) N _ _ _ _ _ _ hlp H locs ls hP hD hS (lv_sub hl [3, 2, 1, 0] rfl)
    cases q9
    exact t_X3_mostChanges_j74 C0 hXs hf H locs ls hP hD hS (lv_sub hl [0, 1, 2] rfl)
set_option maxHeartbeats 4000000 in
set_option maxRecDepth 100000 in
theorem c_X3_mostChanges (l : Launch) (dC : Nat → ClassId) (dI : Nat → Nat → Nat) (cyI cyJ cyZ : ClassId) (qE q_por q_confs q_near q_leads q_agrees q_answers q_hopes q_opens q_most q_ready : Nat) (sz N : Nat) (rRules : Int32) (rCount : Int32) (leads : Nat → Int32) (opens : Nat → Int32) (most : Nat → Int32) (ready : Nat → Int32) (r9 : Int32) (opens9 : Nat → Int32) (most9 : Nat → Int32) (ready9 : Nat → Int32) (hf : f_X3_mostChanges N rRules rCount leads opens most ready = some (r9, opens9, most9, ready9)) : Met l yX3_mostChanges wsX3_mostChanges rm_X3_mostChanges (Pz dC dI cyI cyJ cyZ [.ref qE] sz (w_X3_mostChanges cyI cyJ cyZ qE q_por q_confs q_near q_leads q_agrees q_answers q_hopes q_opens q_most q_ready rRules rCount leads opens most ready) X0) (Qzi dC dI cyI cyJ cyZ (va_A (w_X3_mostChanges cyI cyJ cyZ qE q_por q_confs q_near q_leads q_agrees q_answers q_hopes q_opens q_most q_ready rRules rCount leads opens most ready) sz) (w_X3_mostChanges cyI cyJ cyZ qE q_por q_confs q_near q_leads q_agrees q_answers q_hopes q_opens q_most q_ready rRules rCount leads opens9 most9 ready9) r9) 0 0 (va_A (w_X3_mostChanges cyI cyJ cyZ qE q_por q_confs q_near q_leads q_agrees q_answers q_hopes q_opens q_most q_ready rRules rCount leads opens most ready) sz) := by
  refine Met_of (cc := cX3_mostChanges) (maxL := 4) (ret := (some .int)) (by decide) rfl (Nat.le_of_ble_eq_true rfl) ?_
  intro p e s m args below meth c ls C0 hsz hXs hP hD hS hl
  exact t_X3_mostChanges C0 hXs hf s.heap [] ls hP hD hS hl
abbrev w_X3_judge_told (cyI cyJ cyZ : ClassId) (qE q_por q_confs q_near q_leads q_agrees q_answers q_hopes q_opens q_most q_ready q_told : Nat) (rRules : Int32) (rCount : Int32) (told : Nat → Int32) (confs : Nat → Int32) (leads : Nat → Int32) (agrees : Nat → Int32) (answers : Nat → Int32) : va_W := [(qE, .inr (2, [.ref q_por, .ref q_confs, .ref q_near, .ref q_leads, .ref q_agrees, .ref q_answers, .ref q_hopes, .ref q_opens, .ref q_most, .ref q_ready, .int rRules, .int rCount])), (q_told, .inl (cyI, 6, .inl told)), (q_confs, .inl (cyI, 462, .inl confs)), (q_leads, .inl (cyI, 5544, .inl leads)), (q_agrees, .inl (cyI, 462, .inl agrees)), (q_answers, .inl (cyI, 462, .inl answers))]
abbrev rm_X3_judge_told : Room := { frames := 3, cells := 0, slots := 0, locals := 67 }
theorem hn_X3_judge_told_X3 : ∀ w ∈ wsX30, w ∈ wsX3_judge := fun _ h => List.mem_cons_of_mem _ (List.mem_append_right _ h)
def f_X3_judge_told_b2 (N : Nat) (rRules : Int32) (rCount : Int32) (told : Nat → Int32) (confs : Nat → Int32) (leads : Nat → Int32) (x2 : Int32) (agrees : Nat → Int32) (answers : Nat → Int32) : Option ((Int32 × (Nat → Int32) × (Nat → Int32)) ⊕ ((Nat → Int32) × (Nat → Int32))) :=
  (if rCount ≤ x2 then some (Sum.inr (agrees, answers)) else gd (inb x2 462) (bd1 (f_X1_agreement_told N (confs x2.toNatClampNeg) told) (fun r_3 => gd (inb x2 462) (nm (upd agrees x2.toNatClampNeg r_3) (fun agrees_5 => gd (inb x2 462) (gd (inb x2 462) (nm (upd answers x2.toNatClampNeg (agrees_5 x2.toNatClampNeg)) (fun answers_8 => nm (x2 + 1) (fun x2_9 => some (Sum.inl (x2_9, agrees_5, answers_8)))))))))))
set_option maxHeartbeats 4000000 in
set_option maxRecDepth 100000 in
theorem t_X3_judge_told_b2 (C0 : Cx p s m args meth c cX3_judge none 4 RX3 wsX3_judge A dC dI cyI cyJ cyZ) {qE q_por q_confs q_near q_leads q_agrees q_answers q_hopes q_opens q_most q_ready q_told : Nat} (hXs : X0 A s) {N : Nat} {rRules : Int32} {rCount : Int32} {told : Nat → Int32} {confs : Nat → Int32} {leads : Nat → Int32} {x2 : Int32} {agrees : Nat → Int32} {answers : Nat → Int32} {agrees9 : Nat → Int32} {answers9 : Nat → Int32} {r : (Int32 × (Nat → Int32) × (Nat → Int32)) ⊕ ((Nat → Int32) × (Nat → Int32))} (hf : f_X3_judge_told_b2 N rRules rCount told confs leads x2 agrees answers = some r) (Kh : ∀ (zx2 : Int32) (zagrees : Nat → Int32) (zanswers : Nat → Int32), r = Sum.inl (zx2, zagrees, zanswers) → ∀ (H : Heap) (locs : List Loc) (ls : Array Slot), va_P (dC, dI) vwCl (w_X3_judge_told cyI cyJ cyZ qE q_por q_confs q_near q_leads q_agrees q_answers q_hopes q_opens q_most q_ready q_told rRules rCount told confs leads zagrees zanswers) H → va_D A (w_X3_judge_told cyI cyJ cyZ qE q_por q_confs q_near q_leads q_agrees q_answers q_hopes q_opens q_most q_ready q_told rRules rCount told confs leads zagrees zanswers) → va_S A s.heap H locs → lv_has ls 4 [(0, .ref qE), (1, .ref q_told), (2, .int zx2)] → W p l e rm_X3_judge_told s m args below meth c H locs 0 0 (MQ below (Qzv dC dI cyI cyJ cyZ A (w_X3_judge_told cyI cyJ cyZ qE q_por q_confs q_near q_leads q_agrees q_answers q_hopes q_opens q_most q_ready q_told rRules rCount told confs leads agrees9 answers9)) args s 0 0 A) (F0 m 2 ls [])) (Ke : ∀ (zagrees : Nat → Int32) (zanswers : Nat → Int32), r = Sum.inr (zagrees, zanswers) → ∀ (H : Heap) (locs : List Loc) (ls : Array Slot), va_P (dC, dI) vwCl (w_X3_judge_told cyI cyJ cyZ qE q_por q_confs q_near q_leads q_agrees q_answers q_hopes q_opens q_most q_ready q_told rRules rCount told confs leads zagrees zanswers) H → va_D A (w_X3_judge_told cyI cyJ cyZ qE q_por q_confs q_near q_leads q_agrees q_answers q_hopes q_opens q_most q_ready q_told rRules rCount told confs leads zagrees zanswers) → va_S A s.heap H locs → lv_has ls 4 [(0, .ref qE)] → W p l e rm_X3_judge_told s m args below meth c H locs 0 0 (MQ below (Qzv dC dI cyI cyJ cyZ A (w_X3_judge_told cyI cyJ cyZ qE q_por q_confs q_near q_leads q_agrees q_answers q_hopes q_opens q_most q_ready q_told rRules rCount told confs leads agrees9 answers9)) args s 0 0 A) (F0 m 44 ls [])) (H : Heap) (locs : List Loc) (ls : Array Slot) (hP : va_P (dC, dI) vwCl (w_X3_judge_told cyI cyJ cyZ qE q_por q_confs q_near q_leads q_agrees q_answers q_hopes q_opens q_most q_ready q_told rRules rCount told confs leads agrees answers) H) (hD : va_D A (w_X3_judge_told cyI cyJ cyZ qE q_por q_confs q_near q_leads q_agrees q_answers q_hopes q_opens q_most q_ready q_told rRules rCount told confs leads agrees answers)) (hS : va_S A s.heap H locs) (hl : lv_has ls 4 [(0, .ref qE), (1, .ref q_told), (2, .int x2)]) : W p l e rm_X3_judge_told s m args below meth c H locs 0 0 (MQ below (Qzv dC dI cyI cyJ cyZ A (w_X3_judge_told cyI cyJ cyZ qE q_por q_confs q_near q_leads q_agrees q_answers q_hopes q_opens q_most q_ready q_told rRules rCount told confs leads agrees9 answers9)) args s 0 0 A) (F0 m 2 ls []) := by
  have C1 := C0
  obtain ⟨hx, hb, hr, hlocks, hml, hown, hts, hA, hK⟩ := C1
  unfold f_X3_judge_told_b2 at hf
  refine lv_iload_n hx hb dX3_judge_2 rfl (lv_at hl 2 rfl) ?_
  refine lv_aload_n hx hb dX3_judge_3 rfl (lv_at hl 0 rfl) ?_
  refine va_get (D := (dC, dI)) (ci := 2) (v := .int rCount) (C := RX3) (T := TX3) (N := 12) hx hb hts hn_X3_judge_told_X3 hown hK hP 0 rfl rfl 11 (by decide) (hts (.fieldLink RX3 60 "MetAgents$Reach" "count" "I") (List.mem_of_getElem? (i := 1) rfl)) (fun _ h9 => h9) rfl dX3_judge_4 ?_
  refine lv_icmp_ge (tgt := 44) hx hb dX3_judge_7 (by decide) (fun c_1 => ?_) (fun c_1 => ?_)
  · replace hf := it_t hf c_1
    exact Ke _ _ (Option.some.inj hf).symm H locs ls hP hD hS (lv_sub hl [0] rfl)
  · replace hf := it_f hf c_1
    refine lv_aload_n hx hb dX3_judge_10 rfl (lv_at hl 0 rfl) ?_
    refine va_get (D := (dC, dI)) (ci := 2) (v := .ref q_agrees) (C := RX3) (T := TX3) (N := 12) hx hb hts hn_X3_judge_told_X3 hown hK hP 0 rfl rfl 4 (by decide) (hts (.fieldLink RX3 26 "MetAgents$Reach" "agreements" "[I") (List.mem_of_getElem? (i := 2) rfl)) (fun _ h9 => h9) rfl dX3_judge_11 ?_
    refine lv_iload_n hx hb dX3_judge_14 rfl (lv_at hl 2 rfl) ?_
    refine lv_aload_n hx hb dX3_judge_15 rfl (lv_at hl 0 rfl) ?_
    refine va_get (D := (dC, dI)) (ci := 2) (v := .ref q_confs) (C := RX3) (T := TX3) (N := 12) hx hb hts hn_X3_judge_told_X3 hown hK hP 0 rfl rfl 1 (by decide) (hts (.fieldLink RX3 17 "MetAgents$Reach" "configurations" "[I") (List.mem_of_getElem? (i := 3) rfl)) (fun _ h9 => h9) rfl dX3_judge_16 ?_
    refine lv_iload_n hx hb dX3_judge_19 rfl (lv_at hl 2 rfl) ?_
    obtain ⟨h_2, hf⟩ := gd_el hf
    refine va_iald hx hb hK hP 2 0 rfl rfl (inb_in h_2) dX3_judge_20 ?_
    refine lv_aload_n hx hb dX3_judge_21 rfl (lv_at hl 1 rfl) ?_
    obtain ⟨r_3, hc, hf⟩ := bd1_el hf
    refine cl_i (wc := (w_X1_agreement_told cyI cyJ cyZ q_told told)) (wr := [(qE, .inr (2, [.ref q_por, .ref q_confs, .ref q_near, .ref q_leads, .ref q_agrees, .ref q_answers, .ref q_hopes, .ref q_opens, .ref q_most, .ref q_ready, .int rRules, .int rCount])), (q_confs, .inl (cyI, 462, .inl confs)), (q_leads, .inl (cyI, 5544, .inl leads)), (q_agrees, .inl (cyI, 462, .inl agrees)), (q_answers, .inl (cyI, 462, .inl answers))]) (w1 := (w_X1_agreement_told cyI cyJ cyZ q_told told)) (w2 := (w_X3_judge_told cyI cyJ cyZ qE q_por q_confs q_near q_leads q_agrees q_answers q_hopes q_opens q_most q_ready q_told rRules rCount told confs leads agrees answers)) C0 (rn_S (As := [.int (confs x2.toNatClampNeg), .ref q_told]) (rest := [.int x2, .ref q_agrees]) (wc := (w_X1_agreement_told cyI cyJ cyZ q_told told)) (X := X0) C0 (c_X1_agreement_told l dC dI cyI cyJ cyZ q_told H.size N (confs x2.toNatClampNeg) told r_3 hc) (va_cwS 2 hts gX3_judge_X1_agreement rfl rfl rfl (by decide +kernel) ⟨Nat.le_of_ble_eq_true rfl, Nat.le_of_ble_eq_true rfl⟩) X0_car trivial hP hD hS [1] rfl rfl rfl hl.1 rfl (Nat.le_of_ble_eq_true rfl) dX3_judge_22 ⟨Nat.le_of_ble_eq_true rfl, Nat.le_of_ble_eq_true rfl⟩) hP hD hS [1] [0, 2, 3, 4, 5] [0, 5, 1, 2, 3, 4] rfl rfl rfl (by decide) rfl rfl (fun H locs hP hD hS => ?_)
    obtain ⟨h_4, hf⟩ := gd_el hf
    obtain ⟨agrees_5, e_5, hf⟩ := nm_el hf
    refine ast_i (w2 := (w_X3_judge_told cyI cyJ cyZ qE q_por q_confs q_near q_leads q_agrees q_answers q_hopes q_opens q_most q_ready q_told rRules rCount told confs leads agrees_5 answers)) hx hb hK hP hD hS 4 0 rfl rfl (inb_in h_4) e_5 rfl dX3_judge_25 (fun H locs hP hD hS => ?_)
    refine lv_aload_n hx hb dX3_judge_26 rfl (lv_at hl 0 rfl) ?_
    refine va_get (D := (dC, dI)) (ci := 2) (v := .ref q_answers) (C := RX3) (T := TX3) (N := 12) hx hb hts hn_X3_judge_told_X3 hown hK hP 0 rfl rfl 5 (by decide) (hts (.fieldLink RX3 29 "MetAgents$Reach" "answers" "[I") (List.mem_of_getElem? (i := 4) rfl)) (fun _ h9 => h9) rfl dX3_judge_27 ?_
    refine lv_iload_n hx hb dX3_judge_30 rfl (lv_at hl 2 rfl) ?_
    refine lv_aload_n hx hb dX3_judge_31 rfl (lv_at hl 0 rfl) ?_
    refine va_get (D := (dC, dI)) (ci := 2) (v := .ref q_agrees) (C := RX3) (T := TX3) (N := 12) hx hb hts hn_X3_judge_told_X3 hown hK hP 0 rfl rfl 4 (by decide) (hts (.fieldLink RX3 26 "MetAgents$Reach" "agreements" "[I") (List.mem_of_getElem? (i := 2) rfl)) (fun _ h9 => h9) rfl dX3_judge_32 ?_
    refine lv_iload_n hx hb dX3_judge_35 rfl (lv_at hl 2 rfl) ?_
    obtain ⟨h_6, hf⟩ := gd_el hf
    refine va_iald hx hb hK hP 4 0 rfl rfl (inb_in h_6) dX3_judge_36 ?_
    obtain ⟨h_7, hf⟩ := gd_el hf
    obtain ⟨answers_8, e_8, hf⟩ := nm_el hf
    refine ast_i (w2 := (w_X3_judge_told cyI cyJ cyZ qE q_por q_confs q_near q_leads q_agrees q_answers q_hopes q_opens q_most q_ready q_told rRules rCount told confs leads agrees_5 answers_8)) hx hb hK hP hD hS 5 0 rfl rfl (inb_in h_7) e_8 rfl dX3_judge_37 (fun H locs hP hD hS => ?_)
    obtain ⟨x2_9, e_9, hf⟩ := nm_el hf
    refine lv_iinc (v := x2_9) (lv' := [(2, .int x2_9), (0, .ref qE), (1, .ref q_told)]) hx hb dX3_judge_38 hl (k := 2) rfl (by rw [e_9]; rfl) (by decide) rfl (fun ls hl => ?_)
    refine lv_goto (tgt := 2) hx hb dX3_judge_41 (by decide) ?_
    exact Kh _ _ _ (Option.some.inj hf).symm H locs ls hP hD hS (lv_sub hl [1, 2, 0] rfl)
set_option maxHeartbeats 4000000 in
set_option maxRecDepth 100000 in
theorem l_X3_judge_told_b2 (C0 : Cx p s m args meth c cX3_judge none 4 RX3 wsX3_judge A dC dI cyI cyJ cyZ) {qE q_por q_confs q_near q_leads q_agrees q_answers q_hopes q_opens q_most q_ready q_told : Nat} (hXs : X0 A s) {N : Nat} {rRules : Int32} {rCount : Int32} {told : Nat → Int32} {confs : Nat → Int32} {leads : Nat → Int32} {agrees9 : Nat → Int32} {answers9 : Nat → Int32} {z : (Nat → Int32) × (Nat → Int32)} (Ke : ∀ (zagrees : Nat → Int32) (zanswers : Nat → Int32), z = (zagrees, zanswers) → ∀ (H : Heap) (locs : List Loc) (ls : Array Slot), va_P (dC, dI) vwCl (w_X3_judge_told cyI cyJ cyZ qE q_por q_confs q_near q_leads q_agrees q_answers q_hopes q_opens q_most q_ready q_told rRules rCount told confs leads zagrees zanswers) H → va_D A (w_X3_judge_told cyI cyJ cyZ qE q_por q_confs q_near q_leads q_agrees q_answers q_hopes q_opens q_most q_ready q_told rRules rCount told confs leads zagrees zanswers) → va_S A s.heap H locs → lv_has ls 4 [(0, .ref qE)] → W p l e rm_X3_judge_told s m args below meth c H locs 0 0 (MQ below (Qzv dC dI cyI cyJ cyZ A (w_X3_judge_told cyI cyJ cyZ qE q_por q_confs q_near q_leads q_agrees q_answers q_hopes q_opens q_most q_ready q_told rRules rCount told confs leads agrees9 answers9)) args s 0 0 A) (F0 m 44 ls [])) : ∀ (n9 : Nat) (x2 : Int32) (agrees : Nat → Int32) (answers : Nat → Int32), loopN (fun (w9 : Int32 × (Nat → Int32) × (Nat → Int32)) => f_X3_judge_told_b2 N rRules rCount told confs leads w9.1 w9.2.1 w9.2.2) n9 (x2, agrees, answers) = some z → ∀ (H : Heap) (locs : List Loc) (ls : Array Slot), va_P (dC, dI) vwCl (w_X3_judge_told cyI cyJ cyZ qE q_por q_confs q_near q_leads q_agrees q_answers q_hopes q_opens q_most q_ready q_told rRules rCount told confs leads agrees answers) H → va_D A (w_X3_judge_told cyI cyJ cyZ qE q_por q_confs q_near q_leads q_agrees q_answers q_hopes q_opens q_most q_ready q_told rRules rCount told confs leads agrees answers) → va_S A s.heap H locs → lv_has ls 4 [(0, .ref qE), (1, .ref q_told), (2, .int x2)] → W p l e rm_X3_judge_told s m args below meth c H locs 0 0 (MQ below (Qzv dC dI cyI cyJ cyZ A (w_X3_judge_told cyI cyJ cyZ qE q_por q_confs q_near q_leads q_agrees q_answers q_hopes q_opens q_most q_ready q_told rRules rCount told confs leads agrees9 answers9)) args s 0 0 A) (F0 m 2 ls []) := by
  intro n9
  induction n9 with
  | zero => intro _ _ _ h; cases h
  | succ n9 ih =>
    intro x2 agrees answers h H locs ls hP hD hS hl
    rcases loopN_el h with ⟨y9, h1, h2⟩ | h1
    · exact t_X3_judge_told_b2 C0 hXs  h1 (fun zx2 zagrees zanswers q9 H locs ls hP hD hS hl => ih zx2 zagrees zanswers (by cases q9; exact h2) H locs ls hP hD hS hl) (fun _ _ q9 => by cases q9) H locs ls hP hD hS hl
    · exact t_X3_judge_told_b2 C0 hXs  h1 (fun _ _ _ q9 => by cases q9) (fun eagrees eanswers q9 => Ke eagrees eanswers (by cases q9; rfl)) H locs ls hP hD hS hl
def f_X3_judge_told_b48 (N : Nat) (rRules : Int32) (rCount : Int32) (told : Nat → Int32) (confs : Nat → Int32) (leads : Nat → Int32) (agrees : Nat → Int32) (x2 : Int32) (x3 : Int32) (answers : Nat → Int32) : Option ((Int32 × Int32 × (Nat → Int32)) ⊕ ((Nat → Int32))) :=
  (if x2 = 0 then some (Sum.inr answers) else (if 462 ≤ x3 then some (Sum.inr answers) else bd2 (f_X3_takeAnswersAway N rRules rCount leads answers) (fun r_14 answers_15 => nm (x3 + 1) (fun x3_16 => some (Sum.inl (r_14, x3_16, answers_15))))))
set_option maxHeartbeats 4000000 in
set_option maxRecDepth 100000 in
theorem t_X3_judge_told_b48 (C0 : Cx p s m args meth c cX3_judge none 4 RX3 wsX3_judge A dC dI cyI cyJ cyZ) {qE q_por q_confs q_near q_leads q_agrees q_answers q_hopes q_opens q_most q_ready q_told : Nat} (hXs : X0 A s) {N : Nat} {rRules : Int32} {rCount : Int32} {told : Nat → Int32} {confs : Nat → Int32} {leads : Nat → Int32} {agrees : Nat → Int32} {x2 : Int32} {x3 : Int32} {answers : Nat → Int32} {agrees9 : Nat → Int32} {answers9 : Nat → Int32} {r : (Int32 × Int32 × (Nat → Int32)) ⊕ ((Nat → Int32))} (hf : f_X3_judge_told_b48 N rRules rCount told confs leads agrees x2 x3 answers = some r) (Kh : ∀ (zx2 : Int32) (zx3 : Int32) (zanswers : Nat → Int32), r = Sum.inl (zx2, zx3, zanswers) → ∀ (H : Heap) (locs : List Loc) (ls : Array Slot), va_P (dC, dI) vwCl (w_X3_judge_told cyI cyJ cyZ qE q_por q_confs q_near q_leads q_agrees q_answers q_hopes q_opens q_most q_ready q_told rRules rCount told confs leads agrees zanswers) H → va_D A (w_X3_judge_told cyI cyJ cyZ qE q_por q_confs q_near q_leads q_agrees q_answers q_hopes q_opens q_most q_ready q_told rRules rCount told confs leads agrees zanswers) → va_S A s.heap H locs → lv_has ls 4 [(0, .ref qE), (2, .int zx2), (3, .int zx3)] → W p l e rm_X3_judge_told s m args below meth c H locs 0 0 (MQ below (Qzv dC dI cyI cyJ cyZ A (w_X3_judge_told cyI cyJ cyZ qE q_por q_confs q_near q_leads q_agrees q_answers q_hopes q_opens q_most q_ready q_told rRules rCount told confs leads agrees9 answers9)) args s 0 0 A) (F0 m 48 ls [])) (Ke : ∀ (zanswers : Nat → Int32), r = Sum.inr zanswers → ∀ (H : Heap) (locs : List Loc) (ls : Array Slot), va_P (dC, dI) vwCl (w_X3_judge_told cyI cyJ cyZ qE q_por q_confs q_near q_leads q_agrees q_answers q_hopes q_opens q_most q_ready q_told rRules rCount told confs leads agrees zanswers) H → va_D A (w_X3_judge_told cyI cyJ cyZ qE q_por q_confs q_near q_leads q_agrees q_answers q_hopes q_opens q_most q_ready q_told rRules rCount told confs leads agrees zanswers) → va_S A s.heap H locs → lv_has ls 4 [] → W p l e rm_X3_judge_told s m args below meth c H locs 0 0 (MQ below (Qzv dC dI cyI cyJ cyZ A (w_X3_judge_told cyI cyJ cyZ qE q_por q_confs q_near q_leads q_agrees q_answers q_hopes q_opens q_most q_ready q_told rRules rCount told confs leads agrees9 answers9)) args s 0 0 A) (F0 m 70 ls [])) (H : Heap) (locs : List Loc) (ls : Array Slot) (hP : va_P (dC, dI) vwCl (w_X3_judge_told cyI cyJ cyZ qE q_por q_confs q_near q_leads q_agrees q_answers q_hopes q_opens q_most q_ready q_told rRules rCount told confs leads agrees answers) H) (hD : va_D A (w_X3_judge_told cyI cyJ cyZ qE q_por q_confs q_near q_leads q_agrees q_answers q_hopes q_opens q_most q_ready q_told rRules rCount told confs leads agrees answers)) (hS : va_S A s.heap H locs) (hl : lv_has ls 4 [(0, .ref qE), (2, .int x2), (3, .int x3)]) : W p l e rm_X3_judge_told s m args below meth c H locs 0 0 (MQ below (Qzv dC dI cyI cyJ cyZ A (w_X3_judge_told cyI cyJ cyZ qE q_por q_confs q_near q_leads q_agrees q_answers q_hopes q_opens q_most q_ready q_told rRules rCount told confs leads agrees9 answers9)) args s 0 0 A) (F0 m 48 ls []) := by
  have C1 := C0
  obtain ⟨hx, hb, hr, hlocks, hml, hown, hts, hA, hK⟩ := C1
  unfold f_X3_judge_told_b48 at hf
  refine lv_iload_n hx hb dX3_judge_48 rfl (lv_at hl 1 rfl) ?_
  refine lv_if_eq (tgt := 70) hx hb dX3_judge_49 (by decide) (fun c_12 => ?_) (fun c_12 => ?_)
  · replace hf := it_t hf c_12
    exact Ke _ (Option.some.inj hf).symm H locs ls hP hD hS (lv_sub hl [] rfl)
  · replace hf := it_f hf c_12
    refine lv_iload_n hx hb dX3_judge_52 rfl (lv_at hl 2 rfl) ?_
    refine lv_sipush (v := 462) hx hb dX3_judge_53 (by decide) ?_
    refine lv_icmp_ge (tgt := 70) hx hb dX3_judge_56 (by decide) (fun c_13 => ?_) (fun c_13 => ?_)
    · replace hf := it_t hf c_13
      exact Ke _ (Option.some.inj hf).symm H locs ls hP hD hS (lv_sub hl [] rfl)
    · replace hf := it_f hf c_13
      refine lv_aload_n hx hb dX3_judge_59 rfl (lv_at hl 0 rfl) ?_
      obtain ⟨r_14, answers_15, hc, hf⟩ := bd2_el hf
      refine cl_i (wc := (w_X3_takeAnswersAway cyI cyJ cyZ qE q_por q_confs q_near q_leads q_agrees q_answers q_hopes q_opens q_most q_ready rRules rCount leads answers)) (wr := [(q_told, .inl (cyI, 6, .inl told)), (q_confs, .inl (cyI, 462, .inl confs)), (q_agrees, .inl (cyI, 462, .inl agrees))]) (w1 := (w_X3_takeAnswersAway cyI cyJ cyZ qE q_por q_confs q_near q_leads q_agrees q_answers q_hopes q_opens q_most q_ready rRules rCount leads answers_15)) (w2 := (w_X3_judge_told cyI cyJ cyZ qE q_por q_confs q_near q_leads q_agrees q_answers q_hopes q_opens q_most q_ready q_told rRules rCount told confs leads agrees answers_15)) C0 (rn_V (As := []) (rest := []) (wc := (w_X3_takeAnswersAway cyI cyJ cyZ qE q_por q_confs q_near q_leads q_agrees q_answers q_hopes q_opens q_most q_ready rRules rCount leads answers)) (X := X0) C0 (c_X3_takeAnswersAway l dC dI cyI cyJ cyZ qE q_por q_confs q_near q_leads q_agrees q_answers q_hopes q_opens q_most q_ready H.size N rRules rCount leads answers r_14 answers_15 hc) (cwV 0 hts gX3_judge_X3_takeAnswersAway rfl rfl rfl (by decide +kernel) ⟨Nat.le_of_ble_eq_true rfl, Nat.le_of_ble_eq_true rfl⟩) X0_car trivial hP hD hS [0, 3, 5] rfl rfl 0 2 rfl rfl rfl hl.1 rfl (Nat.le_of_ble_eq_true rfl) dX3_judge_60 ⟨Nat.le_of_ble_eq_true rfl, Nat.le_of_ble_eq_true rfl⟩) hP hD hS [0, 3, 5] [1, 2, 4] [3, 0, 1, 4, 2, 5] rfl rfl rfl (by decide) rfl rfl (fun H locs hP hD hS => ?_)
      refine lv_istore_n (lv' := [(2, .int r_14), (0, .ref qE), (3, .int x3)]) hx hb dX3_judge_63 rfl hl (by decide) rfl (fun ls hl => ?_)
      obtain ⟨x3_16, e_16, hf⟩ := nm_el hf
      refine lv_iinc (v := x3_16) (lv' := [(3, .int x3_16), (2, .int r_14), (0, .ref qE)]) hx hb dX3_judge_64 hl (k := 2) rfl (by rw [e_16]; rfl) (by decide) rfl (fun ls hl => ?_)
      refine lv_goto (tgt := 48) hx hb dX3_judge_67 (by decide) ?_
      exact Kh _ _ _ (Option.some.inj hf).symm H locs ls hP hD hS (lv_sub hl [2, 1, 0] rfl)
set_option maxHeartbeats 4000000 in
set_option maxRecDepth 100000 in
theorem l_X3_judge_told_b48 (C0 : Cx p s m args meth c cX3_judge none 4 RX3 wsX3_judge A dC dI cyI cyJ cyZ) {qE q_por q_confs q_near q_leads q_agrees q_answers q_hopes q_opens q_most q_ready q_told : Nat} (hXs : X0 A s) {N : Nat} {rRules : Int32} {rCount : Int32} {told : Nat → Int32} {confs : Nat → Int32} {leads : Nat → Int32} {agrees : Nat → Int32} {agrees9 : Nat → Int32} {answers9 : Nat → Int32} {z : (Nat → Int32)} (Ke : ∀ (zanswers : Nat → Int32), z = zanswers → ∀ (H : Heap) (locs : List Loc) (ls : Array Slot), va_P (dC, dI) vwCl (w_X3_judge_told cyI cyJ cyZ qE q_por q_confs q_near q_leads q_agrees q_answers q_hopes q_opens q_most q_ready q_told rRules rCount told confs leads agrees zanswers) H → va_D A (w_X3_judge_told cyI cyJ cyZ qE q_por q_confs q_near q_leads q_agrees q_answers q_hopes q_opens q_most q_ready q_told rRules rCount told confs leads agrees zanswers) → va_S A s.heap H locs → lv_has ls 4 [] → W p l e rm_X3_judge_told s m args below meth c H locs 0 0 (MQ below (Qzv dC dI cyI cyJ cyZ A (w_X3_judge_told cyI cyJ cyZ qE q_por q_confs q_near q_leads q_agrees q_answers q_hopes q_opens q_most q_ready q_told rRules rCount told confs leads agrees9 answers9)) args s 0 0 A) (F0 m 70 ls [])) : ∀ (n9 : Nat) (x2 : Int32) (x3 : Int32) (answers : Nat → Int32), loopN (fun (w9 : Int32 × Int32 × (Nat → Int32)) => f_X3_judge_told_b48 N rRules rCount told confs leads agrees w9.1 w9.2.1 w9.2.2) n9 (x2, x3, answers) = some z → ∀ (H : Heap) (locs : List Loc) (ls : Array Slot), va_P (dC, dI) vwCl (w_X3_judge_told cyI cyJ cyZ qE q_por q_confs q_near q_leads q_agrees q_answers q_hopes q_opens q_most q_ready q_told rRules rCount told confs leads agrees answers) H → va_D A (w_X3_judge_told cyI cyJ cyZ qE q_por q_confs q_near q_leads q_agrees q_answers q_hopes q_opens q_most q_ready q_told rRules rCount told confs leads agrees answers) → va_S A s.heap H locs → lv_has ls 4 [(0, .ref qE), (2, .int x2), (3, .int x3)] → W p l e rm_X3_judge_told s m args below meth c H locs 0 0 (MQ below (Qzv dC dI cyI cyJ cyZ A (w_X3_judge_told cyI cyJ cyZ qE q_por q_confs q_near q_leads q_agrees q_answers q_hopes q_opens q_most q_ready q_told rRules rCount told confs leads agrees9 answers9)) args s 0 0 A) (F0 m 48 ls []) := by
  intro n9
  induction n9 with
  | zero => intro _ _ _ h; cases h
  | succ n9 ih =>
    intro x2 x3 answers h H locs ls hP hD hS hl
    rcases loopN_el h with ⟨y9, h1, h2⟩ | h1
    · exact t_X3_judge_told_b48 C0 hXs  h1 (fun zx2 zx3 zanswers q9 H locs ls hP hD hS hl => ih zx2 zx3 zanswers (by cases q9; exact h2) H locs ls hP hD hS hl) (fun _ q9 => by cases q9) H locs ls hP hD hS hl
    · exact t_X3_judge_told_b48 C0 hXs  h1 (fun _ _ _ q9 => by cases q9) (fun eanswers q9 => Ke eanswers (by cases q9; rfl)) H locs ls hP hD hS hl
def f_X3_judge_told (N : Nat) (rRules : Int32) (rCount : Int32) (told : Nat → Int32) (confs : Nat → Int32) (leads : Nat → Int32) (agrees : Nat → Int32) (answers : Nat → Int32) : Option ((Nat → Int32) × (Nat → Int32)) :=
  bd2 (loopN (fun (w9 : Int32 × (Nat → Int32) × (Nat → Int32)) => f_X3_judge_told_b2 N rRules rCount told confs leads w9.1 w9.2.1 w9.2.2) N (0, agrees, answers)) (fun agrees_10 answers_11 => bd1 (loopN (fun (w9 : Int32 × Int32 × (Nat → Int32)) => f_X3_judge_told_b48 N rRules rCount told confs leads agrees_10 w9.1 w9.2.1 w9.2.2) N (1, 0, answers_11)) (fun answers_17 => some (agrees_10, answers_17)))
set_option maxHeartbeats 4000000 in
set_option maxRecDepth 100000 in
theorem t_X3_judge_told (C0 : Cx p s m args meth c cX3_judge none 4 RX3 wsX3_judge A dC dI cyI cyJ cyZ) {qE q_por q_confs q_near q_leads q_agrees q_answers q_hopes q_opens q_most q_ready q_told : Nat} (hXs : X0 A s) {N : Nat} {rRules : Int32} {rCount : Int32} {told : Nat → Int32} {confs : Nat → Int32} {leads : Nat → Int32} {agrees : Nat → Int32} {answers : Nat → Int32} {agrees9 : Nat → Int32} {answers9 : Nat → Int32} (hf : f_X3_judge_told N rRules rCount told confs leads agrees answers = some (agrees9, answers9)) (H : Heap) (locs : List Loc) (ls : Array Slot) (hP : va_P (dC, dI) vwCl (w_X3_judge_told cyI cyJ cyZ qE q_por q_confs q_near q_leads q_agrees q_answers q_hopes q_opens q_most q_ready q_told rRules rCount told confs leads agrees answers) H) (hD : va_D A (w_X3_judge_told cyI cyJ cyZ qE q_por q_confs q_near q_leads q_agrees q_answers q_hopes q_opens q_most q_ready q_told rRules rCount told confs leads agrees answers)) (hS : va_S A s.heap H locs) (hl : lv_has ls 4 [(0, .ref qE), (1, .ref q_told)]) : W p l e rm_X3_judge_told s m args below meth c H locs 0 0 (MQ below (Qzv dC dI cyI cyJ cyZ A (w_X3_judge_told cyI cyJ cyZ qE q_por q_confs q_near q_leads q_agrees q_answers q_hopes q_opens q_most q_ready q_told rRules rCount told confs leads agrees9 answers9)) args s 0 0 A) (F0 m 0 ls []) := by
  have C1 := C0
  obtain ⟨hx, hb, hr, hlocks, hml, hown, hts, hA, hK⟩ := C1
  unfold f_X3_judge_told at hf
  refine lv_iconst (v := 0) hx hb dX3_judge_0 (by decide) ?_
  refine lv_istore_n (lv' := [(2, .int 0), (0, .ref qE), (1, .ref q_told)]) hx hb dX3_judge_1 rfl hl (by decide) rfl (fun ls hl => ?_)
  obtain ⟨agrees_10, answers_11, hlp, hf⟩ := bd2_el hf
  refine l_X3_judge_told_b2 C0 hXs (fun agrees_10 answers_11 q9 H locs ls hP hD hS hl => ?_) N _ _ _ hlp H locs ls hP hD hS (lv_sub hl [1, 2, 0] rfl)
  cases q9
  refine lv_iconst (v := 1) hx hb dX3_judge_44 (by decide) ?_
  refine lv_istore_n (lv' := [(2, .int 1), (0, .ref qE)]) hx hb dX3_judge_45 rfl hl (by decide) rfl (fun ls hl => ?_)
  refine lv_iconst (v := 0) hx hb dX3_judge_46 (by decide) ?_
  refine lv_istore_n (lv' := [(3, .int 0), (2, .int 1), (0, .ref qE)]) hx hb dX3_judge_47 rfl hl (by decide) rfl (fun ls hl => ?_)
  obtain ⟨answers_17, hlp, hf⟩ := bd1_el hf
  refine l_X3_judge_told_b48 C0 hXs (fun answers_17 q9 H locs ls hP hD hS hl => ?_) N _ _ _ hlp H locs ls hP hD hS (lv_sub hl [2, 1, 0] rfl)
  cases q9
  cases hf
  exact W.vret hx hb hr (fun t ht hW => ⟨⟨(), rfl, trivial, by rw [ht]; exact hP, va_K.moved hW.alike hK, hD⟩, hS.F ht⟩) hS.2.2 dX3_judge_70
set_option maxHeartbeats 4000000 in
set_option maxRecDepth 100000 in
theorem c_X3_judge_told (l : Launch) (dC : Nat → ClassId) (dI : Nat → Nat → Nat) (cyI cyJ cyZ : ClassId) (qE q_por q_confs q_near q_leads q_agrees q_answers q_hopes q_opens q_most q_ready q_told : Nat) (sz N : Nat) (rRules : Int32) (rCount : Int32) (told : Nat → Int32) (confs : Nat → Int32) (leads : Nat → Int32) (agrees : Nat → Int32) (answers : Nat → Int32) (agrees9 : Nat → Int32) (answers9 : Nat → Int32) (hf : f_X3_judge_told N rRules rCount told confs leads agrees answers = some (agrees9, answers9)) : Met l yX3_judge wsX3_judge rm_X3_judge_told (Pz dC dI cyI cyJ cyZ [.ref qE, .ref q_told] sz (w_X3_judge_told cyI cyJ cyZ qE q_por q_confs q_near q_leads q_agrees q_answers q_hopes q_opens q_most q_ready q_told rRules rCount told confs leads agrees answers) X0) (Qzv dC dI cyI cyJ cyZ (va_A (w_X3_judge_told cyI cyJ cyZ qE q_por q_confs q_near q_leads q_agrees q_answers q_hopes q_opens q_most q_ready q_told rRules rCount told confs leads agrees answers) sz) (w_X3_judge_told cyI cyJ cyZ qE q_por q_confs q_near q_leads q_agrees q_answers q_hopes q_opens q_most q_ready q_told rRules rCount told confs leads agrees9 answers9)) 0 0 (va_A (w_X3_judge_told cyI cyJ cyZ qE q_por q_confs q_near q_leads q_agrees q_answers q_hopes q_opens q_most q_ready q_told rRules rCount told confs leads agrees answers) sz) := by
  refine Met_of (cc := cX3_judge) (maxL := 4) (ret := none) (by decide) rfl (Nat.le_of_ble_eq_true rfl) ?_
  intro p e s m args below meth c ls C0 hsz hXs hP hD hS hl
  exact t_X3_judge_told C0 hXs hf s.heap [] ls hP hD hS hl
end
