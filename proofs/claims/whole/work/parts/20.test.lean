section
variable {p : Program} {l : Launch} {e : Env} {s : State} {m : MethodId} {args : Array Value} {below : List Frame} {meth : Method} {c : Code} {A : Nat → Prop} {dC : Nat → ClassId} {dI : Nat → Nat → Nat} {cyI cyJ cyZ : ClassId}
abbrev w_X5_of (cyI cyJ cyZ : ClassId) : va_W := []
abbrev rm_X5_of : Room := { frames := 0, cells := 0, slots := 0, locals := 0 }
def f_X5_of (N : Nat) (x0 : Int32) (x1 : Int32) : Option (Int32) :=
  some (x0 * 6) + x1
set_option maxHeartbeats 4000000 in
set_option maxRecDepth 100000 in
theorem t_X5_of (C0 : Cx p s m args meth c cX5_of (some .int) 2 RX5 wsX5_of A dC dI cyI cyJ cyZ) (hXs : X0 A s) {N : Nat} {x0 : Int32} {x1 : Int32} {r9 : Int32} (hf : f_X5_of N x0 x1 = some r9) (H : Heap) (locs : List Loc) (ls : Array Slot) (hP : va_P (dC, dI) vwCl (w_X5_of cyI cyJ cyZ) H) (hD : va_D A (w_X5_of cyI cyJ cyZ)) (hS : va_S A s.heap H locs) (hl : lv_has ls 2 [(0, .int x0), (1, .int x1)]) : W p l e rm_X5_of s m args below meth c H locs 0 0 (MQ below (Qzi dC dI cyI cyJ cyZ A (w_X5_of cyI cyJ cyZ) r9) args s 0 0 A) (F0 m 0 ls []) := by
  have C1 := C0
  obtain ⟨hx, hb, hr, hlocks, hml, hown, hts, hA, hK⟩ := C1
  unfold f_X5_of at hf
  refine lv_iload_n hx hb dX5_of_0 rfl (lv_at hl 0 rfl) ?_
  refine lv_bipush (v := 6) hx hb dX5_of_1 (by decide) ?_
  refine lv_imul hx hb dX5_of_3 ?_
  refine lv_iload_n hx hb dX5_of_4 rfl (lv_at hl 1 rfl) ?_
  refine lv_iadd hx hb dX5_of_5 ?_
  cases hf
  exact W.iret hx hb hr (fun t ht hW => ⟨⟨_, (), rfl, rfl, by rw [ht]; exact hP, va_K.moved hW.alike hK, hD⟩, hS.F ht⟩) hS.2.2 dX5_of_6
set_option maxHeartbeats 4000000 in
set_option maxRecDepth 100000 in
theorem c_X5_of (l : Launch) (dC : Nat → ClassId) (dI : Nat → Nat → Nat) (cyI cyJ cyZ : ClassId) (sz N : Nat) (x0 : Int32) (x1 : Int32) (r9 : Int32) (hf : f_X5_of N x0 x1 = some r9) : Met l yX5_of wsX5_of rm_X5_of (Pz dC dI cyI cyJ cyZ [.int x0, .int x1] sz (w_X5_of cyI cyJ cyZ) X0) (Qzi dC dI cyI cyJ cyZ (va_A (w_X5_of cyI cyJ cyZ) sz) (w_X5_of cyI cyJ cyZ) r9) 0 0 (va_A (w_X5_of cyI cyJ cyZ) sz) := by
  refine Met_of (cc := cX5_of) (maxL := 2) (ret := (some .int)) (by decide) rfl (Nat.le_of_ble_eq_true rfl) ?_
  intro p e s m args below meth c ls C0 hsz hXs hP hD hS hl
  exact t_X5_of C0 hXs hf s.heap [] ls hP hD hS hl
abbrev w_X5_first (cyI cyJ cyZ : ClassId) : va_W := []
abbrev rm_X5_first : Room := { frames := 0, cells := 0, slots := 0, locals := 0 }
def f_X5_first (N : Nat) (x0 : Int32) : Option (Int32) :=
  some x0 / 6
set_option maxHeartbeats 4000000 in
set_option maxRecDepth 100000 in
theorem t_X5_first (C0 : Cx p s m args meth c cX5_first (some .int) 1 RX5 wsX5_first A dC dI cyI cyJ cyZ) (hXs : X0 A s) {N : Nat} {x0 : Int32} {r9 : Int32} (hf : f_X5_first N x0 = some r9) (H : Heap) (locs : List Loc) (ls : Array Slot) (hP : va_P (dC, dI) vwCl (w_X5_first cyI cyJ cyZ) H) (hD : va_D A (w_X5_first cyI cyJ cyZ)) (hS : va_S A s.heap H locs) (hl : lv_has ls 1 [(0, .int x0)]) : W p l e rm_X5_first s m args below meth c H locs 0 0 (MQ below (Qzi dC dI cyI cyJ cyZ A (w_X5_first cyI cyJ cyZ) r9) args s 0 0 A) (F0 m 0 ls []) := by
  have C1 := C0
  obtain ⟨hx, hb, hr, hlocks, hml, hown, hts, hA, hK⟩ := C1
  unfold f_X5_first at hf
  refine lv_iload_n hx hb dX5_first_0 rfl (lv_at hl 0 rfl) ?_
  refine lv_bipush (v := 6) hx hb dX5_first_1 (by decide) ?_
  refine lv_idiv hx hb dX5_first_3 (by decide) ?_
  cases hf
  exact W.iret hx hb hr (fun t ht hW => ⟨⟨_, (), rfl, rfl, by rw [ht]; exact hP, va_K.moved hW.alike hK, hD⟩, hS.F ht⟩) hS.2.2 dX5_first_4
set_option maxHeartbeats 4000000 in
set_option maxRecDepth 100000 in
theorem c_X5_first (l : Launch) (dC : Nat → ClassId) (dI : Nat → Nat → Nat) (cyI cyJ cyZ : ClassId) (sz N : Nat) (x0 : Int32) (r9 : Int32) (hf : f_X5_first N x0 = some r9) : Met l yX5_first wsX5_first rm_X5_first (Pz dC dI cyI cyJ cyZ [.int x0] sz (w_X5_first cyI cyJ cyZ) X0) (Qzi dC dI cyI cyJ cyZ (va_A (w_X5_first cyI cyJ cyZ) sz) (w_X5_first cyI cyJ cyZ) r9) 0 0 (va_A (w_X5_first cyI cyJ cyZ) sz) := by
  refine Met_of (cc := cX5_first) (maxL := 1) (ret := (some .int)) (by decide) rfl (Nat.le_of_ble_eq_true rfl) ?_
  intro p e s m args below meth c ls C0 hsz hXs hP hD hS hl
  exact t_X5_first C0 hXs hf s.heap [] ls hP hD hS hl
abbrev w_X5_second (cyI cyJ cyZ : ClassId) : va_W := []
abbrev rm_X5_second : Room := { frames := 0, cells := 0, slots := 0, locals := 0 }
def f_X5_second (N : Nat) (x0 : Int32) : Option (Int32) :=
  some x0 - x0 / 6 * 6
set_option maxHeartbeats 4000000 in
set_option maxRecDepth 100000 in
theorem t_X5_second (C0 : Cx p s m args meth c cX5_second (some .int) 1 RX5 wsX5_second A dC dI cyI cyJ cyZ) (hXs : X0 A s) {N : Nat} {x0 : Int32} {r9 : Int32} (hf : f_X5_second N x0 = some r9) (H : Heap) (locs : List Loc) (ls : Array Slot) (hP : va_P (dC, dI) vwCl (w_X5_second cyI cyJ cyZ) H) (hD : va_D A (w_X5_second cyI cyJ cyZ)) (hS : va_S A s.heap H locs) (hl : lv_has ls 1 [(0, .int x0)]) : W p l e rm_X5_second s m args below meth c H locs 0 0 (MQ below (Qzi dC dI cyI cyJ cyZ A (w_X5_second cyI cyJ cyZ) r9) args s 0 0 A) (F0 m 0 ls []) := by
  have C1 := C0
  obtain ⟨hx, hb, hr, hlocks, hml, hown, hts, hA, hK⟩ := C1
  unfold f_X5_second at hf
  refine lv_iload_n hx hb dX5_second_0 rfl (lv_at hl 0 rfl) ?_
  refine lv_bipush (v := 6) hx hb dX5_second_1 (by decide) ?_
  refine lv_irem hx hb dX5_second_3 (by decide) ?_
  cases hf
  exact W.iret hx hb hr (fun t ht hW => ⟨⟨_, (), rfl, rfl, by rw [ht]; exact hP, va_K.moved hW.alike hK, hD⟩, hS.F ht⟩) hS.2.2 dX5_second_4
set_option maxHeartbeats 4000000 in
set_option maxRecDepth 100000 in
theorem c_X5_second (l : Launch) (dC : Nat → ClassId) (dI : Nat → Nat → Nat) (cyI cyJ cyZ : ClassId) (sz N : Nat) (x0 : Int32) (r9 : Int32) (hf : f_X5_second N x0 = some r9) : Met l yX5_second wsX5_second rm_X5_second (Pz dC dI cyI cyJ cyZ [.int x0] sz (w_X5_second cyI cyJ cyZ) X0) (Qzi dC dI cyI cyJ cyZ (va_A (w_X5_second cyI cyJ cyZ) sz) (w_X5_second cyI cyJ cyZ) r9) 0 0 (va_A (w_X5_second cyI cyJ cyZ) sz) := by
  refine Met_of (cc := cX5_second) (maxL := 1) (ret := (some .int)) (by decide) rfl (Nat.le_of_ble_eq_true rfl) ?_
  intro p e s m args below meth c ls C0 hsz hXs hP hD hS hl
  exact t_X5_second C0 hXs hf s.heap [] ls hP hD hS hl
abbrev w_X4_outcome (cyI cyJ cyZ : ClassId) (qB q_twos q_outs : Nat) (bCount : Int32) (outs : Nat → Int32) : va_W := [(qB, .inr (3, [.ref q_twos, .ref q_outs, .int bCount])), (q_outs, .inl (cyI, 36, .inl outs))]
abbrev rm_X4_outcome : Room := { frames := 0, cells := 0, slots := 0, locals := 0 }
theorem hn_X4_outcome_X4 : ∀ w ∈ wsX40, w ∈ wsX4_outcome := fun _ h => List.mem_cons_of_mem _ (List.mem_append_right _ h)
def f_X4_outcome (N : Nat) (x1 : Int32) (outs : Nat → Int32) : Option (Int32) :=
  gd (inb x1 36) (some outs x1.toNatClampNeg)
set_option maxHeartbeats 4000000 in
set_option maxRecDepth 100000 in
theorem t_X4_outcome (C0 : Cx p s m args meth c cX4_outcome (some .int) 2 RX4 wsX4_outcome A dC dI cyI cyJ cyZ) {qB q_twos q_outs : Nat} (hXs : X0 A s) {N : Nat} {x1 : Int32} {outs : Nat → Int32} {bCount : Int32} {r9 : Int32} (hf : f_X4_outcome N x1 outs = some r9) (H : Heap) (locs : List Loc) (ls : Array Slot) (hP : va_P (dC, dI) vwCl (w_X4_outcome cyI cyJ cyZ qB q_twos q_outs bCount outs) H) (hD : va_D A (w_X4_outcome cyI cyJ cyZ qB q_twos q_outs bCount outs)) (hS : va_S A s.heap H locs) (hl : lv_has ls 2 [(0, .ref qB), (1, .int x1)]) : W p l e rm_X4_outcome s m args below meth c H locs 0 0 (MQ below (Qzi dC dI cyI cyJ cyZ A (w_X4_outcome cyI cyJ cyZ qB q_twos q_outs bCount outs) r9) args s 0 0 A) (F0 m 0 ls []) := by
  have C1 := C0
  obtain ⟨hx, hb, hr, hlocks, hml, hown, hts, hA, hK⟩ := C1
  unfold f_X4_outcome at hf
  refine lv_aload_n hx hb dX4_outcome_0 rfl (lv_at hl 0 rfl) ?_
  refine va_get (D := (dC, dI)) (ci := 3) (v := .ref q_outs) (C := RX4) (T := TX4) (N := 3) hx hb hts hn_X4_outcome_X4 hown hK hP 0 rfl rfl 1 (by decide) (hts (.fieldLink RX4 17 "MetAgents$RuleBook" "outcomes" "[I") (List.mem_of_getElem? (i := 1) rfl)) (fun _ h9 => h9) rfl dX4_outcome_1 ?_
  refine lv_iload_n hx hb dX4_outcome_4 rfl (lv_at hl 1 rfl) ?_
  obtain ⟨h_1, hf⟩ := gd_el hf
  refine va_iald hx hb hK hP 1 0 rfl rfl (inb_in h_1) dX4_outcome_5 ?_
  cases hf
  exact W.iret hx hb hr (fun t ht hW => ⟨⟨_, (), rfl, rfl, by rw [ht]; exact hP, va_K.moved hW.alike hK, hD⟩, hS.F ht⟩) hS.2.2 dX4_outcome_6
set_option maxHeartbeats 4000000 in
set_option maxRecDepth 100000 in
theorem c_X4_outcome (l : Launch) (dC : Nat → ClassId) (dI : Nat → Nat → Nat) (cyI cyJ cyZ : ClassId) (qB q_twos q_outs : Nat) (sz N : Nat) (x1 : Int32) (outs : Nat → Int32) (bCount : Int32) (r9 : Int32) (hf : f_X4_outcome N x1 outs = some r9) : Met l yX4_outcome wsX4_outcome rm_X4_outcome (Pz dC dI cyI cyJ cyZ [.ref qB, .int x1] sz (w_X4_outcome cyI cyJ cyZ qB q_twos q_outs bCount outs) X0) (Qzi dC dI cyI cyJ cyZ (va_A (w_X4_outcome cyI cyJ cyZ qB q_twos q_outs bCount outs) sz) (w_X4_outcome cyI cyJ cyZ qB q_twos q_outs bCount outs) r9) 0 0 (va_A (w_X4_outcome cyI cyJ cyZ qB q_twos q_outs bCount outs) sz) := by
  refine Met_of (cc := cX4_outcome) (maxL := 2) (ret := (some .int)) (by decide) rfl (Nat.le_of_ble_eq_true rfl) ?_
  intro p e s m args below meth c ls C0 hsz hXs hP hD hS hl
  exact t_X4_outcome C0 hXs hf s.heap [] ls hP hD hS hl
abbrev w_X4_twoAt (cyI cyJ cyZ : ClassId) (qB q_twos q_outs : Nat) (bCount : Int32) (twos : Nat → Int32) : va_W := [(qB, .inr (3, [.ref q_twos, .ref q_outs, .int bCount])), (q_twos, .inl (cyI, 12, .inl twos))]
abbrev rm_X4_twoAt : Room := { frames := 0, cells := 0, slots := 0, locals := 0 }
theorem hn_X4_twoAt_X4 : ∀ w ∈ wsX40, w ∈ wsX4_twoAt := fun _ h => List.mem_cons_of_mem _ (List.mem_append_right _ h)
def f_X4_twoAt (N : Nat) (x1 : Int32) (twos : Nat → Int32) : Option (Int32) :=
  gd (inb x1 12) (some twos x1.toNatClampNeg)
set_option maxHeartbeats 4000000 in
set_option maxRecDepth 100000 in
theorem t_X4_twoAt (C0 : Cx p s m args meth c cX4_twoAt (some .int) 2 RX4 wsX4_twoAt A dC dI cyI cyJ cyZ) {qB q_twos q_outs : Nat} (hXs : X0 A s) {N : Nat} {x1 : Int32} {twos : Nat → Int32} {bCount : Int32} {r9 : Int32} (hf : f_X4_twoAt N x1 twos = some r9) (H : Heap) (locs : List Loc) (ls : Array Slot) (hP : va_P (dC, dI) vwCl (w_X4_twoAt cyI cyJ cyZ qB q_twos q_outs bCount twos) H) (hD : va_D A (w_X4_twoAt cyI cyJ cyZ qB q_twos q_outs bCount twos)) (hS : va_S A s.heap H locs) (hl : lv_has ls 2 [(0, .ref qB), (1, .int x1)]) : W p l e rm_X4_twoAt s m args below meth c H locs 0 0 (MQ below (Qzi dC dI cyI cyJ cyZ A (w_X4_twoAt cyI cyJ cyZ qB q_twos q_outs bCount twos) r9) args s 0 0 A) (F0 m 0 ls []) := by
  have C1 := C0
  obtain ⟨hx, hb, hr, hlocks, hml, hown, hts, hA, hK⟩ := C1
  unfold f_X4_twoAt at hf
  refine lv_aload_n hx hb dX4_twoAt_0 rfl (lv_at hl 0 rfl) ?_
  refine va_get (D := (dC, dI)) (ci := 3) (v := .ref q_twos) (C := RX4) (T := TX4) (N := 3) hx hb hts hn_X4_twoAt_X4 hown hK hP 0 rfl rfl 0 (by decide) (hts (.fieldLink RX4 9 "MetAgents$RuleBook" "twos" "[I") (List.mem_of_getElem? (i := 1) rfl)) (fun _ h9 => h9) rfl dX4_twoAt_1 ?_
  refine lv_iload_n hx hb dX4_twoAt_4 rfl (lv_at hl 1 rfl) ?_
  obtain ⟨h_1, hf⟩ := gd_el hf
  refine va_iald hx hb hK hP 1 0 rfl rfl (inb_in h_1) dX4_twoAt_5 ?_
  cases hf
  exact W.iret hx hb hr (fun t ht hW => ⟨⟨_, (), rfl, rfl, by rw [ht]; exact hP, va_K.moved hW.alike hK, hD⟩, hS.F ht⟩) hS.2.2 dX4_twoAt_6
set_option maxHeartbeats 4000000 in
set_option maxRecDepth 100000 in
theorem c_X4_twoAt (l : Launch) (dC : Nat → ClassId) (dI : Nat → Nat → Nat) (cyI cyJ cyZ : ClassId) (qB q_twos q_outs : Nat) (sz N : Nat) (x1 : Int32) (twos : Nat → Int32) (bCount : Int32) (r9 : Int32) (hf : f_X4_twoAt N x1 twos = some r9) : Met l yX4_twoAt wsX4_twoAt rm_X4_twoAt (Pz dC dI cyI cyJ cyZ [.ref qB, .int x1] sz (w_X4_twoAt cyI cyJ cyZ qB q_twos q_outs bCount twos) X0) (Qzi dC dI cyI cyJ cyZ (va_A (w_X4_twoAt cyI cyJ cyZ qB q_twos q_outs bCount twos) sz) (w_X4_twoAt cyI cyJ cyZ qB q_twos q_outs bCount twos) r9) 0 0 (va_A (w_X4_twoAt cyI cyJ cyZ qB q_twos q_outs bCount twos) sz) := by
  refine Met_of (cc := cX4_twoAt) (maxL := 2) (ret := (some .int)) (by decide) rfl (Nat.le_of_ble_eq_true rfl) ?_
  intro p e s m args below meth c ls C0 hsz hXs hP hD hS hl
  exact t_X4_twoAt C0 hXs hf s.heap [] ls hP hD hS hl
abbrev w_X4_outcomeAt (cyI cyJ cyZ : ClassId) (qB q_twos q_outs : Nat) (bCount : Int32) (twos : Nat → Int32) (outs : Nat → Int32) : va_W := [(qB, .inr (3, [.ref q_twos, .ref q_outs, .int bCount])), (q_twos, .inl (cyI, 12, .inl twos)), (q_outs, .inl (cyI, 36, .inl outs))]
abbrev rm_X4_outcomeAt : Room := { frames := 0, cells := 0, slots := 0, locals := 0 }
theorem hn_X4_outcomeAt_X4 : ∀ w ∈ wsX40, w ∈ wsX4_outcomeAt := fun _ h => List.mem_cons_of_mem _ (List.mem_append_right _ h)
def f_X4_outcomeAt (N : Nat) (x1 : Int32) (twos : Nat → Int32) (outs : Nat → Int32) : Option (Int32) :=
  gd (inb x1 12) (gd (inb (twos x1.toNatClampNeg) 36) (some outs (twos x1.toNatClampNeg).toNatClampNeg))
set_option maxHeartbeats 4000000 in
set_option maxRecDepth 100000 in
theorem t_X4_outcomeAt (C0 : Cx p s m args meth c cX4_outcomeAt (some .int) 2 RX4 wsX4_outcomeAt A dC dI cyI cyJ cyZ) {qB q_twos q_outs : Nat} (hXs : X0 A s) {N : Nat} {x1 : Int32} {twos : Nat → Int32} {outs : Nat → Int32} {bCount : Int32} {r9 : Int32} (hf : f_X4_outcomeAt N x1 twos outs = some r9) (H : Heap) (locs : List Loc) (ls : Array Slot) (hP : va_P (dC, dI) vwCl (w_X4_outcomeAt cyI cyJ cyZ qB q_twos q_outs bCount twos outs) H) (hD : va_D A (w_X4_outcomeAt cyI cyJ cyZ qB q_twos q_outs bCount twos outs)) (hS : va_S A s.heap H locs) (hl : lv_has ls 2 [(0, .ref qB), (1, .int x1)]) : W p l e rm_X4_outcomeAt s m args below meth c H locs 0 0 (MQ below (Qzi dC dI cyI cyJ cyZ A (w_X4_outcomeAt cyI cyJ cyZ qB q_twos q_outs bCount twos outs) r9) args s 0 0 A) (F0 m 0 ls []) := by
  have C1 := C0
  obtain ⟨hx, hb, hr, hlocks, hml, hown, hts, hA, hK⟩ := C1
  unfold f_X4_outcomeAt at hf
  refine lv_aload_n hx hb dX4_outcomeAt_0 rfl (lv_at hl 0 rfl) ?_
  refine va_get (D := (dC, dI)) (ci := 3) (v := .ref q_outs) (C := RX4) (T := TX4) (N := 3) hx hb hts hn_X4_outcomeAt_X4 hown hK hP 0 rfl rfl 1 (by decide) (hts (.fieldLink RX4 17 "MetAgents$RuleBook" "outcomes" "[I") (List.mem_of_getElem? (i := 1) rfl)) (fun _ h9 => h9) rfl dX4_outcomeAt_1 ?_
  refine lv_aload_n hx hb dX4_outcomeAt_4 rfl (lv_at hl 0 rfl) ?_
  refine va_get (D := (dC, dI)) (ci := 3) (v := .ref q_twos) (C := RX4) (T := TX4) (N := 3) hx hb hts hn_X4_outcomeAt_X4 hown hK hP 0 rfl rfl 0 (by decide) (hts (.fieldLink RX4 9 "MetAgents$RuleBook" "twos" "[I") (List.mem_of_getElem? (i := 2) rfl)) (fun _ h9 => h9) rfl dX4_outcomeAt_5 ?_
  refine lv_iload_n hx hb dX4_outcomeAt_8 rfl (lv_at hl 1 rfl) ?_
  obtain ⟨h_1, hf⟩ := gd_el hf
  refine va_iald hx hb hK hP 1 0 rfl rfl (inb_in h_1) dX4_outcomeAt_9 ?_
  obtain ⟨h_2, hf⟩ := gd_el hf
  refine va_iald hx hb hK hP 2 0 rfl rfl (inb_in h_2) dX4_outcomeAt_10 ?_
  cases hf
  exact W.iret hx hb hr (fun t ht hW => ⟨⟨_, (), rfl, rfl, by rw [ht]; exact hP, va_K.moved hW.alike hK, hD⟩, hS.F ht⟩) hS.2.2 dX4_outcomeAt_11
set_option maxHeartbeats 4000000 in
set_option maxRecDepth 100000 in
theorem c_X4_outcomeAt (l : Launch) (dC : Nat → ClassId) (dI : Nat → Nat → Nat) (cyI cyJ cyZ : ClassId) (qB q_twos q_outs : Nat) (sz N : Nat) (x1 : Int32) (twos : Nat → Int32) (outs : Nat → Int32) (bCount : Int32) (r9 : Int32) (hf : f_X4_outcomeAt N x1 twos outs = some r9) : Met l yX4_outcomeAt wsX4_outcomeAt rm_X4_outcomeAt (Pz dC dI cyI cyJ cyZ [.ref qB, .int x1] sz (w_X4_outcomeAt cyI cyJ cyZ qB q_twos q_outs bCount twos outs) X0) (Qzi dC dI cyI cyJ cyZ (va_A (w_X4_outcomeAt cyI cyJ cyZ qB q_twos q_outs bCount twos outs) sz) (w_X4_outcomeAt cyI cyJ cyZ qB q_twos q_outs bCount twos outs) r9) 0 0 (va_A (w_X4_outcomeAt cyI cyJ cyZ qB q_twos q_outs bCount twos outs) sz) := by
  refine Met_of (cc := cX4_outcomeAt) (maxL := 2) (ret := (some .int)) (by decide) rfl (Nat.le_of_ble_eq_true rfl) ?_
  intro p e s m args below meth c ls C0 hsz hXs hP hD hS hl
  exact t_X4_outcomeAt C0 hXs hf s.heap [] ls hP hD hS hl
abbrev w_X4_statesNamedAt (cyI cyJ cyZ : ClassId) (qB q_twos q_outs : Nat) (bCount : Int32) (twos : Nat → Int32) (outs : Nat → Int32) : va_W := [(qB, .inr (3, [.ref q_twos, .ref q_outs, .int bCount])), (q_twos, .inl (cyI, 12, .inl twos)), (q_outs, .inl (cyI, 36, .inl outs))]
abbrev rm_X4_statesNamedAt : Room := { frames := 1, cells := 0, slots := 0, locals := 21 }
def f_X4_statesNamedAt (N : Nat) (x1 : Int32) (twos : Nat → Int32) (outs : Nat → Int32) : Option (Int32) :=
  bd1 (f_X4_twoAt N x1 twos) (fun r_1 => bd1 (f_X4_outcomeAt N x1 twos outs) (fun r_2 => bd1 (f_X5_first N r_1) (fun r_3 => bd1 (f_X5_second N r_1) (fun r_4 => bd1 (f_X5_first N r_2) (fun r_5 => bd1 (f_X5_second N r_2) (fun r_6 => some (((1 <<< (r_3 &&& 31)) ||| (1 <<< (r_4 &&& 31))) ||| (1 <<< (r_5 &&& 31))) ||| (1 <<< (r_6 &&& 31))))))))
set_option maxHeartbeats 4000000 in
set_option maxRecDepth 100000 in
theorem t_X4_statesNamedAt (C0 : Cx p s m args meth c cX4_statesNamedAt (some .int) 4 RX4 wsX4_statesNamedAt A dC dI cyI cyJ cyZ) {qB q_twos q_outs : Nat} (hXs : X0 A s) {N : Nat} {x1 : Int32} {twos : Nat → Int32} {outs : Nat → Int32} {bCount : Int32} {r9 : Int32} (hf : f_X4_statesNamedAt N x1 twos outs = some r9) (H : Heap) (locs : List Loc) (ls : Array Slot) (hP : va_P (dC, dI) vwCl (w_X4_statesNamedAt cyI cyJ cyZ qB q_twos q_outs bCount twos outs) H) (hD : va_D A (w_X4_statesNamedAt cyI cyJ cyZ qB q_twos q_outs bCount twos outs)) (hS : va_S A s.heap H locs) (hl : lv_has ls 4 [(0, .ref qB), (1, .int x1)]) : W p l e rm_X4_statesNamedAt s m args below meth c H locs 0 0 (MQ below (Qzi dC dI cyI cyJ cyZ A (w_X4_statesNamedAt cyI cyJ cyZ qB q_twos q_outs bCount twos outs) r9) args s 0 0 A) (F0 m 0 ls []) := by
  have C1 := C0
  obtain ⟨hx, hb, hr, hlocks, hml, hown, hts, hA, hK⟩ := C1
  unfold f_X4_statesNamedAt at hf
  refine lv_aload_n hx hb dX4_statesNamedAt_0 rfl (lv_at hl 0 rfl) ?_
  refine lv_iload_n hx hb dX4_statesNamedAt_1 rfl (lv_at hl 1 rfl) ?_
  obtain ⟨r_1, hc, hf⟩ := bd1_el hf
  refine cl_i (wc := (w_X4_twoAt cyI cyJ cyZ qB q_twos q_outs bCount twos)) (wr := [(q_outs, .inl (cyI, 36, .inl outs))]) (w1 := (w_X4_twoAt cyI cyJ cyZ qB q_twos q_outs bCount twos)) (w2 := (w_X4_statesNamedAt cyI cyJ cyZ qB q_twos q_outs bCount twos outs)) C0 (rn_V (As := [.int x1]) (rest := []) (wc := (w_X4_twoAt cyI cyJ cyZ qB q_twos q_outs bCount twos)) (X := X0) C0 (c_X4_twoAt l dC dI cyI cyJ cyZ qB q_twos q_outs H.size N x1 twos bCount r_1 hc) (cwV 1 hts gX4_statesNamedAt_X4_twoAt rfl rfl rfl (by decide +kernel) ⟨Nat.le_of_ble_eq_true rfl, Nat.le_of_ble_eq_true rfl⟩) X0_car trivial hP hD hS [0, 1] rfl rfl 0 3 rfl rfl rfl hl.1 rfl (Nat.le_of_ble_eq_true rfl) dX4_statesNamedAt_2 ⟨Nat.le_of_ble_eq_true rfl, Nat.le_of_ble_eq_true rfl⟩) hP hD hS [0, 1] [2] [1, 2, 0] rfl rfl rfl (by decide) rfl rfl (fun H locs hP hD hS => ?_)
  refine lv_istore_n (lv' := [(2, .int r_1), (0, .ref qB), (1, .int x1)]) hx hb dX4_statesNamedAt_5 rfl hl (by decide) rfl (fun ls hl => ?_)
  refine lv_aload_n hx hb dX4_statesNamedAt_6 rfl (lv_at hl 1 rfl) ?_
  refine lv_iload_n hx hb dX4_statesNamedAt_7 rfl (lv_at hl 2 rfl) ?_
  obtain ⟨r_2, hc, hf⟩ := bd1_el hf
  refine cl_i (wc := (w_X4_outcomeAt cyI cyJ cyZ qB q_twos q_outs bCount twos outs)) (wr := []) (w1 := (w_X4_outcomeAt cyI cyJ cyZ qB q_twos q_outs bCount twos outs)) (w2 := (w_X4_statesNamedAt cyI cyJ cyZ qB q_twos q_outs bCount twos outs)) C0 (rn_V (As := [.int x1]) (rest := []) (wc := (w_X4_outcomeAt cyI cyJ cyZ qB q_twos q_outs bCount twos outs)) (X := X0) C0 (c_X4_outcomeAt l dC dI cyI cyJ cyZ qB q_twos q_outs H.size N x1 twos outs bCount r_2 hc) (cwV 1 hts gX4_statesNamedAt_X4_outcomeAt rfl rfl rfl (by decide +kernel) ⟨Nat.le_of_ble_eq_true rfl, Nat.le_of_ble_eq_true rfl⟩) X0_car trivial hP hD hS [0, 1, 2] rfl rfl 0 3 rfl rfl rfl hl.1 rfl (Nat.le_of_ble_eq_true rfl) dX4_statesNamedAt_8 ⟨Nat.le_of_ble_eq_true rfl, Nat.le_of_ble_eq_true rfl⟩) hP hD hS [0, 1, 2] [] [0, 1, 2] rfl rfl rfl (by decide) rfl rfl (fun H locs hP hD hS => ?_)
  refine lv_istore_n (lv' := [(3, .int r_2), (2, .int r_1), (0, .ref qB), (1, .int x1)]) hx hb dX4_statesNamedAt_11 rfl hl (by decide) rfl (fun ls hl => ?_)
  refine lv_iconst (v := 1) hx hb dX4_statesNamedAt_12 (by decide) ?_
  refine lv_iload_n hx hb dX4_statesNamedAt_13 rfl (lv_at hl 1 rfl) ?_
  obtain ⟨r_3, hc, hf⟩ := bd1_el hf
  refine cl_i (wc := (w_X5_first cyI cyJ cyZ)) (wr := [(qB, .inr (3, [.ref q_twos, .ref q_outs, .int bCount])), (q_twos, .inl (cyI, 12, .inl twos)), (q_outs, .inl (cyI, 36, .inl outs))]) (w1 := (w_X5_first cyI cyJ cyZ)) (w2 := (w_X4_statesNamedAt cyI cyJ cyZ qB q_twos q_outs bCount twos outs)) C0 (rn_S (As := [.int r_1]) (rest := [.int 1]) (wc := (w_X5_first cyI cyJ cyZ)) (X := X0) C0 (c_X5_first l dC dI cyI cyJ cyZ H.size N r_1 r_3 hc) (va_cwS 1 hts gX4_statesNamedAt_X5_first rfl rfl rfl (by decide +kernel) ⟨Nat.le_of_ble_eq_true rfl, Nat.le_of_ble_eq_true rfl⟩) X0_car trivial hP hD hS [] rfl rfl rfl hl.1 rfl (Nat.le_of_ble_eq_true rfl) dX4_statesNamedAt_14 ⟨Nat.le_of_ble_eq_true rfl, Nat.le_of_ble_eq_true rfl⟩) hP hD hS [] [0, 1, 2] [0, 1, 2] rfl rfl rfl (by decide) rfl rfl (fun H locs hP hD hS => ?_)
  refine lv_ishl hx hb dX4_statesNamedAt_17 ?_
  refine lv_iconst (v := 1) hx hb dX4_statesNamedAt_18 (by decide) ?_
  refine lv_iload_n hx hb dX4_statesNamedAt_19 rfl (lv_at hl 1 rfl) ?_
  obtain ⟨r_4, hc, hf⟩ := bd1_el hf
  refine cl_i (wc := (w_X5_second cyI cyJ cyZ)) (wr := [(qB, .inr (3, [.ref q_twos, .ref q_outs, .int bCount])), (q_twos, .inl (cyI, 12, .inl twos)), (q_outs, .inl (cyI, 36, .inl outs))]) (w1 := (w_X5_second cyI cyJ cyZ)) (w2 := (w_X4_statesNamedAt cyI cyJ cyZ qB q_twos q_outs bCount twos outs)) C0 (rn_S (As := [.int r_1]) (rest := [.int 1, .int (1 <<< (r_3 &&& 31))]) (wc := (w_X5_second cyI cyJ cyZ)) (X := X0) C0 (c_X5_second l dC dI cyI cyJ cyZ H.size N r_1 r_4 hc) (va_cwS 1 hts gX4_statesNamedAt_X5_second rfl rfl rfl (by decide +kernel) ⟨Nat.le_of_ble_eq_true rfl, Nat.le_of_ble_eq_true rfl⟩) X0_car trivial hP hD hS [] rfl rfl rfl hl.1 rfl (Nat.le_of_ble_eq_true rfl) dX4_statesNamedAt_20 ⟨Nat.le_of_ble_eq_true rfl, Nat.le_of_ble_eq_true rfl⟩) hP hD hS [] [0, 1, 2] [0, 1, 2] rfl rfl rfl (by decide) rfl rfl (fun H locs hP hD hS => ?_)
  refine lv_ishl hx hb dX4_statesNamedAt_23 ?_
  refine lv_ior hx hb dX4_statesNamedAt_24 ?_
  refine lv_iconst (v := 1) hx hb dX4_statesNamedAt_25 (by decide) ?_
  refine lv_iload_n hx hb dX4_statesNamedAt_26 rfl (lv_at hl 0 rfl) ?_
  obtain ⟨r_5, hc, hf⟩ := bd1_el hf
  refine cl_i (wc := (w_X5_first cyI cyJ cyZ)) (wr := [(qB, .inr (3, [.ref q_twos, .ref q_outs, .int bCount])), (q_twos, .inl (cyI, 12, .inl twos)), (q_outs, .inl (cyI, 36, .inl outs))]) (w1 := (w_X5_first cyI cyJ cyZ)) (w2 := (w_X4_statesNamedAt cyI cyJ cyZ qB q_twos q_outs bCount twos outs)) C0 (rn_S (As := [.int r_2]) (rest := [.int 1, .int ((1 <<< (r_3 &&& 31)) ||| (1 <<< (r_4 &&& 31)))]) (wc := (w_X5_first cyI cyJ cyZ)) (X := X0) C0 (c_X5_first l dC dI cyI cyJ cyZ H.size N r_2 r_5 hc) (va_cwS 1 hts gX4_statesNamedAt_X5_first rfl rfl rfl (by decide +kernel) ⟨Nat.le_of_ble_eq_true rfl, Nat.le_of_ble_eq_true rfl⟩) X0_car trivial hP hD hS [] rfl rfl rfl hl.1 rfl (Nat.le_of_ble_eq_true rfl) dX4_statesNamedAt_27 ⟨Nat.le_of_ble_eq_true rfl, Nat.le_of_ble_eq_true rfl⟩) hP hD hS [] [0, 1, 2] [0, 1, 2] rfl rfl rfl (by decide) rfl rfl (fun H locs hP hD hS => ?_)
  refine lv_ishl hx hb dX4_statesNamedAt_30 ?_
  refine lv_ior hx hb dX4_statesNamedAt_31 ?_
  refine lv_iconst (v := 1) hx hb dX4_statesNamedAt_32 (by decide) ?_
  refine lv_iload_n hx hb dX4_statesNamedAt_33 rfl (lv_at hl 0 rfl) ?_
  obtain ⟨r_6, hc, hf⟩ := bd1_el hf
  refine cl_i (wc := (w_X5_second cyI cyJ cyZ)) (wr := [(qB, .inr (3, [.ref q_twos, .ref q_outs, .int bCount])), (q_twos, .inl (cyI, 12, .inl twos)), (q_outs, .inl (cyI, 36, .inl outs))]) (w1 := (w_X5_second cyI cyJ cyZ)) (w2 := (w_X4_statesNamedAt cyI cyJ cyZ qB q_twos q_outs bCount twos outs)) C0 (rn_S (As := [.int r_2]) (rest := [.int 1, .int (((1 <<< (r_3 &&& 31)) ||| (1 <<< (r_4 &&& 31))) ||| (1 <<< (r_5 &&& 31)))]) (wc := (w_X5_second cyI cyJ cyZ)) (X := X0) C0 (c_X5_second l dC dI cyI cyJ cyZ H.size N r_2 r_6 hc) (va_cwS 1 hts gX4_statesNamedAt_X5_second rfl rfl rfl (by decide +kernel) ⟨Nat.le_of_ble_eq_true rfl, Nat.le_of_ble_eq_true rfl⟩) X0_car trivial hP hD hS [] rfl rfl rfl hl.1 rfl (Nat.le_of_ble_eq_true rfl) dX4_statesNamedAt_34 ⟨Nat.le_of_ble_eq_true rfl, Nat.le_of_ble_eq_true rfl⟩) hP hD hS [] [0, 1, 2] [0, 1, 2] rfl rfl rfl (by decide) rfl rfl (fun H locs hP hD hS => ?_)
  refine lv_ishl hx hb dX4_statesNamedAt_37 ?_
  refine lv_ior hx hb dX4_statesNamedAt_38 ?_
  cases hf
  exact W.iret hx hb hr (fun t ht hW => ⟨⟨_, (), rfl, rfl, by rw [ht]; exact hP, va_K.moved hW.alike hK, hD⟩, hS.F ht⟩) hS.2.2 dX4_statesNamedAt_39
set_option maxHeartbeats 4000000 in
set_option maxRecDepth 100000 in
theorem c_X4_statesNamedAt (l : Launch) (dC : Nat → ClassId) (dI : Nat → Nat → Nat) (cyI cyJ cyZ : ClassId) (qB q_twos q_outs : Nat) (sz N : Nat) (x1 : Int32) (twos : Nat → Int32) (outs : Nat → Int32) (bCount : Int32) (r9 : Int32) (hf : f_X4_statesNamedAt N x1 twos outs = some r9) : Met l yX4_statesNamedAt wsX4_statesNamedAt rm_X4_statesNamedAt (Pz dC dI cyI cyJ cyZ [.ref qB, .int x1] sz (w_X4_statesNamedAt cyI cyJ cyZ qB q_twos q_outs bCount twos outs) X0) (Qzi dC dI cyI cyJ cyZ (va_A (w_X4_statesNamedAt cyI cyJ cyZ qB q_twos q_outs bCount twos outs) sz) (w_X4_statesNamedAt cyI cyJ cyZ qB q_twos q_outs bCount twos outs) r9) 0 0 (va_A (w_X4_statesNamedAt cyI cyJ cyZ qB q_twos q_outs bCount twos outs) sz) := by
  refine Met_of (cc := cX4_statesNamedAt) (maxL := 4) (ret := (some .int)) (by decide) rfl (Nat.le_of_ble_eq_true rfl) ?_
  intro p e s m args below meth c ls C0 hsz hXs hP hD hS hl
  exact t_X4_statesNamedAt C0 hXs hf s.heap [] ls hP hD hS hl
abbrev w_X4_take (cyI cyJ cyZ : ClassId) (qB q_twos q_outs : Nat) (bCount : Int32) (twos : Nat → Int32) (outs : Nat → Int32) : va_W := [(qB, .inr (3, [.ref q_twos, .ref q_outs, .int bCount])), (q_twos, .inl (cyI, 12, .inl twos)), (q_outs, .inl (cyI, 36, .inl outs))]
abbrev rm_X4_take : Room := { frames := 0, cells := 0, slots := 0, locals := 0 }
theorem hn_X4_take_X4 : ∀ w ∈ wsX40, w ∈ wsX4_take := fun _ h => List.mem_cons_of_mem _ (List.mem_append_right _ h)
def f_X4_take_b4 (N : Nat) (x1 : Int32) (bCount : Int32) (outs : Nat → Int32) (x2 : Int32) (x3 : Int32) (twos : Nat → Int32) : Option ((Int32 × Int32 × (Nat → Int32)) ⊕ (Int32 × (Nat → Int32))) :=
  (if bCount ≤ x3 then some (Sum.inr (x2, twos)) else gd (inb x3 12) ((if (twos x3.toNatClampNeg) = x1 then nm (x3 + 1) (fun x3_4 => some (Sum.inl (x2, x3_4, twos))) else gd (inb x3 12) (gd (inb x2 12) (nm (upd twos x2.toNatClampNeg (twos x3.toNatClampNeg)) (fun twos_7 => nm (x2 + 1) (fun x2_8 => nm (x3 + 1) (fun x3_9 => some (Sum.inl (x2_8, x3_9, twos_7))))))))))
set_option maxHeartbeats 4000000 in
set_option maxRecDepth 100000 in
theorem t_X4_take_b4 (C0 : Cx p s m args meth c cX4_take none 4 RX4 wsX4_take A dC dI cyI cyJ cyZ) {qB q_twos q_outs : Nat} (hXs : X0 A s) {N : Nat} {x1 : Int32} {bCount : Int32} {outs : Nat → Int32} {x2 : Int32} {x3 : Int32} {twos : Nat → Int32} {bCount9 : Int32} {twos9 : Nat → Int32} {outs9 : Nat → Int32} {r : (Int32 × Int32 × (Nat → Int32)) ⊕ (Int32 × (Nat → Int32))} (hf : f_X4_take_b4 N x1 bCount outs x2 x3 twos = some r) (Kh : ∀ (zx2 : Int32) (zx3 : Int32) (ztwos : Nat → Int32), r = Sum.inl (zx2, zx3, ztwos) → ∀ (H : Heap) (locs : List Loc) (ls : Array Slot), va_P (dC, dI) vwCl (w_X4_take cyI cyJ cyZ qB q_twos q_outs bCount ztwos outs) H → va_D A (w_X4_take cyI cyJ cyZ qB q_twos q_outs bCount ztwos outs) → va_S A s.heap H locs → lv_has ls 4 [(0, .ref qB), (1, .int x1), (2, .int zx2), (3, .int zx3)] → W p l e rm_X4_take s m args below meth c H locs 0 0 (MQ below (Qzv dC dI cyI cyJ cyZ A (w_X4_take cyI cyJ cyZ qB q_twos q_outs bCount9 twos9 outs9)) args s 0 0 A) (F0 m 4 ls [])) (Ke : ∀ (zx2 : Int32) (ztwos : Nat → Int32), r = Sum.inr (zx2, ztwos) → ∀ (H : Heap) (locs : List Loc) (ls : Array Slot), va_P (dC, dI) vwCl (w_X4_take cyI cyJ cyZ qB q_twos q_outs bCount ztwos outs) H → va_D A (w_X4_take cyI cyJ cyZ qB q_twos q_outs bCount ztwos outs) → va_S A s.heap H locs → lv_has ls 4 [(0, .ref qB), (1, .int x1), (2, .int zx2)] → W p l e rm_X4_take s m args below meth c H locs 0 0 (MQ below (Qzv dC dI cyI cyJ cyZ A (w_X4_take cyI cyJ cyZ qB q_twos q_outs bCount9 twos9 outs9)) args s 0 0 A) (F0 m 43 ls [])) (H : Heap) (locs : List Loc) (ls : Array Slot) (hP : va_P (dC, dI) vwCl (w_X4_take cyI cyJ cyZ qB q_twos q_outs bCount twos outs) H) (hD : va_D A (w_X4_take cyI cyJ cyZ qB q_twos q_outs bCount twos outs)) (hS : va_S A s.heap H locs) (hl : lv_has ls 4 [(0, .ref qB), (1, .int x1), (2, .int x2), (3, .int x3)]) : W p l e rm_X4_take s m args below meth c H locs 0 0 (MQ below (Qzv dC dI cyI cyJ cyZ A (w_X4_take cyI cyJ cyZ qB q_twos q_outs bCount9 twos9 outs9)) args s 0 0 A) (F0 m 4 ls []) := by
  have C1 := C0
  obtain ⟨hx, hb, hr, hlocks, hml, hown, hts, hA, hK⟩ := C1
  unfold f_X4_take_b4 at hf
  refine lv_iload_n hx hb dX4_take_4 rfl (lv_at hl 3 rfl) ?_
  refine lv_aload_n hx hb dX4_take_5 rfl (lv_at hl 0 rfl) ?_
  refine va_get (D := (dC, dI)) (ci := 3) (v := .int bCount) (C := RX4) (T := TX4) (N := 3) hx hb hts hn_X4_take_X4 hown hK hP 0 rfl rfl 2 (by decide) (hts (.fieldLink RX4 26 "MetAgents$RuleBook" "count" "I") (List.mem_of_getElem? (i := 1) rfl)) (fun _ h9 => h9) rfl dX4_take_6 ?_
  refine lv_icmp_ge (tgt := 43) hx hb dX4_take_9 (by decide) (fun c_1 => ?_) (fun c_1 => ?_)
  · replace hf := it_t hf c_1
    exact Ke _ _ (Option.some.inj hf).symm H locs ls hP hD hS (lv_sub hl [0, 1, 2] rfl)
  · replace hf := it_f hf c_1
    refine lv_aload_n hx hb dX4_take_12 rfl (lv_at hl 0 rfl) ?_
    refine va_get (D := (dC, dI)) (ci := 3) (v := .ref q_twos) (C := RX4) (T := TX4) (N := 3) hx hb hts hn_X4_take_X4 hown hK hP 0 rfl rfl 0 (by decide) (hts (.fieldLink RX4 9 "MetAgents$RuleBook" "twos" "[I") (List.mem_of_getElem? (i := 2) rfl)) (fun _ h9 => h9) rfl dX4_take_13 ?_
    refine lv_iload_n hx hb dX4_take_16 rfl (lv_at hl 3 rfl) ?_
    obtain ⟨h_2, hf⟩ := gd_el hf
    refine va_iald hx hb hK hP 1 0 rfl rfl (inb_in h_2) dX4_take_17 ?_
    refine lv_iload_n hx hb dX4_take_18 rfl (lv_at hl 1 rfl) ?_
    refine lv_icmp_eq (tgt := 37) hx hb dX4_take_19 (by decide) (fun c_3 => ?_) (fun c_3 => ?_)
    · replace hf := it_t hf c_3
      obtain ⟨x3_4, e_4, hf⟩ := nm_el hf
      refine lv_iinc (v := x3_4) (lv' := [(3, .int x3_4), (0, .ref qB), (1, .int x1), (2, .int x2)]) hx hb dX4_take_37 hl (k := 3) rfl (by rw [e_4]; rfl) (by decide) rfl (fun ls hl => ?_)
      refine lv_goto (tgt := 4) hx hb dX4_take_40 (by decide) ?_
      exact Kh _ _ _ (Option.some.inj hf).symm H locs ls hP hD hS (lv_sub hl [1, 2, 3, 0] rfl)
    · replace hf := it_f hf c_3
      refine lv_aload_n hx hb dX4_take_22 rfl (lv_at hl 0 rfl) ?_
      refine va_get (D := (dC, dI)) (ci := 3) (v := .ref q_twos) (C := RX4) (T := TX4) (N := 3) hx hb hts hn_X4_take_X4 hown hK hP 0 rfl rfl 0 (by decide) (hts (.fieldLink RX4 9 "MetAgents$RuleBook" "twos" "[I") (List.mem_of_getElem? (i := 2) rfl)) (fun _ h9 => h9) rfl dX4_take_23 ?_
      refine lv_iload_n hx hb dX4_take_26 rfl (lv_at hl 2 rfl) ?_
      refine lv_aload_n hx hb dX4_take_27 rfl (lv_at hl 0 rfl) ?_
      refine va_get (D := (dC, dI)) (ci := 3) (v := .ref q_twos) (C := RX4) (T := TX4) (N := 3) hx hb hts hn_X4_take_X4 hown hK hP 0 rfl rfl 0 (by decide) (hts (.fieldLink RX4 9 "MetAgents$RuleBook" "twos" "[I") (List.mem_of_getElem? (i := 2) rfl)) (fun _ h9 => h9) rfl dX4_take_28 ?_
      refine lv_iload_n hx hb dX4_take_31 rfl (lv_at hl 3 rfl) ?_
      obtain ⟨h_5, hf⟩ := gd_el hf
      refine va_iald hx hb hK hP 1 0 rfl rfl (inb_in h_5) dX4_take_32 ?_
      obtain ⟨h_6, hf⟩ := gd_el hf
      obtain ⟨twos_7, e_7, hf⟩ := nm_el hf
      refine ast_i (w2 := (w_X4_take cyI cyJ cyZ qB q_twos q_outs bCount twos_7 outs)) hx hb hK hP hD hS 1 0 rfl rfl (inb_in h_6) e_7 rfl dX4_take_33 (fun H locs hP hD hS => ?_)
      obtain ⟨x2_8, e_8, hf⟩ := nm_el hf
      refine lv_iinc (v := x2_8) (lv' := [(2, .int x2_8), (0, .ref qB), (1, .int x1), (3, .int x3)]) hx hb dX4_take_34 hl (k := 2) rfl (by rw [e_8]; rfl) (by decide) rfl (fun ls hl => ?_)
      obtain ⟨x3_9, e_9, hf⟩ := nm_el hf
      refine lv_iinc (v := x3_9) (lv' := [(3, .int x3_9), (2, .int x2_8), (0, .ref qB), (1, .int x1)]) hx hb dX4_take_37 hl (k := 3) rfl (by rw [e_9]; rfl) (by decide) rfl (fun ls hl => ?_)
      refine lv_goto (tgt := 4) hx hb dX4_take_40 (by decide) ?_
      exact Kh _ _ _ (Option.some.inj hf).symm H locs ls hP hD hS (lv_sub hl [2, 3, 1, 0] rfl)
set_option maxHeartbeats 4000000 in
set_option maxRecDepth 100000 in
theorem l_X4_take_b4 (C0 : Cx p s m args meth c cX4_take none 4 RX4 wsX4_take A dC dI cyI cyJ cyZ) {qB q_twos q_outs : Nat} (hXs : X0 A s) {N : Nat} {x1 : Int32} {bCount : Int32} {outs : Nat → Int32} {bCount9 : Int32} {twos9 : Nat → Int32} {outs9 : Nat → Int32} {z : Int32 × (Nat → Int32)} (Ke : ∀ (zx2 : Int32) (ztwos : Nat → Int32), z = (zx2, ztwos) → ∀ (H : Heap) (locs : List Loc) (ls : Array Slot), va_P (dC, dI) vwCl (w_X4_take cyI cyJ cyZ qB q_twos q_outs bCount ztwos outs) H → va_D A (w_X4_take cyI cyJ cyZ qB q_twos q_outs bCount ztwos outs) → va_S A s.heap H locs → lv_has ls 4 [(0, .ref qB), (1, .int x1), (2, .int zx2)] → W p l e rm_X4_take s m args below meth c H locs 0 0 (MQ below (Qzv dC dI cyI cyJ cyZ A (w_X4_take cyI cyJ cyZ qB q_twos q_outs bCount9 twos9 outs9)) args s 0 0 A) (F0 m 43 ls [])) : ∀ (n9 : Nat) (x2 : Int32) (x3 : Int32) (twos : Nat → Int32), loopN (fun (w9 : Int32 × Int32 × (Nat → Int32)) => f_X4_take_b4 N x1 bCount outs w9.1 w9.2.1 w9.2.2) n9 (x2, x3, twos) = some z → ∀ (H : Heap) (locs : List Loc) (ls : Array Slot), va_P (dC, dI) vwCl (w_X4_take cyI cyJ cyZ qB q_twos q_outs bCount twos outs) H → va_D A (w_X4_take cyI cyJ cyZ qB q_twos q_outs bCount twos outs) → va_S A s.heap H locs → lv_has ls 4 [(0, .ref qB), (1, .int x1), (2, .int x2), (3, .int x3)] → W p l e rm_X4_take s m args below meth c H locs 0 0 (MQ below (Qzv dC dI cyI cyJ cyZ A (w_X4_take cyI cyJ cyZ qB q_twos q_outs bCount9 twos9 outs9)) args s 0 0 A) (F0 m 4 ls []) := by
  intro n9
  induction n9 with
  | zero => intro _ _ _ h; cases h
  | succ n9 ih =>
    intro x2 x3 twos h H locs ls hP hD hS hl
    rcases loopN_el h with ⟨y9, h1, h2⟩ | h1
    · exact t_X4_take_b4 C0 hXs  h1 (fun zx2 zx3 ztwos q9 H locs ls hP hD hS hl => ih zx2 zx3 ztwos (by cases q9; exact h2) H locs ls hP hD hS hl) (fun _ _ q9 => by cases q9) H locs ls hP hD hS hl
    · exact t_X4_take_b4 C0 hXs  h1 (fun _ _ _ q9 => by cases q9) (fun ex2 etwos q9 => Ke ex2 etwos (by cases q9; rfl)) H locs ls hP hD hS hl
def f_X4_take (N : Nat) (x1 : Int32) (bCount : Int32) (twos : Nat → Int32) (outs : Nat → Int32) : Option (Int32 × (Nat → Int32) × (Nat → Int32)) :=
  bd2 (loopN (fun (w9 : Int32 × Int32 × (Nat → Int32)) => f_X4_take_b4 N x1 bCount outs w9.1 w9.2.1 w9.2.2) N (0, 0, twos)) (fun x2_10 twos_11 => gd (inb x1 36) (nm (upd outs x1.toNatClampNeg (-1)) (fun outs_13 => some (x2_10, twos_11, outs_13))))
set_option maxHeartbeats 4000000 in
set_option maxRecDepth 100000 in
theorem t_X4_take (C0 : Cx p s m args meth c cX4_take none 4 RX4 wsX4_take A dC dI cyI cyJ cyZ) {qB q_twos q_outs : Nat} (hXs : X0 A s) {N : Nat} {x1 : Int32} {bCount : Int32} {twos : Nat → Int32} {outs : Nat → Int32} {bCount9 : Int32} {twos9 : Nat → Int32} {outs9 : Nat → Int32} (hf : f_X4_take N x1 bCount twos outs = some (bCount9, twos9, outs9)) (H : Heap) (locs : List Loc) (ls : Array Slot) (hP : va_P (dC, dI) vwCl (w_X4_take cyI cyJ cyZ qB q_twos q_outs bCount twos outs) H) (hD : va_D A (w_X4_take cyI cyJ cyZ qB q_twos q_outs bCount twos outs)) (hS : va_S A s.heap H locs) (hl : lv_has ls 4 [(0, .ref qB), (1, .int x1)]) : W p l e rm_X4_take s m args below meth c H locs 0 0 (MQ below (Qzv dC dI cyI cyJ cyZ A (w_X4_take cyI cyJ cyZ qB q_twos q_outs bCount9 twos9 outs9)) args s 0 0 A) (F0 m 0 ls []) := by
  have C1 := C0
  obtain ⟨hx, hb, hr, hlocks, hml, hown, hts, hA, hK⟩ := C1
  unfold f_X4_take at hf
  refine lv_iconst (v := 0) hx hb dX4_take_0 (by decide) ?_
  refine lv_istore_n (lv' := [(2, .int 0), (0, .ref qB), (1, .int x1)]) hx hb dX4_take_1 rfl hl (by decide) rfl (fun ls hl => ?_)
  refine lv_iconst (v := 0) hx hb dX4_take_2 (by decide) ?_
  refine lv_istore_n (lv' := [(3, .int 0), (2, .int 0), (0, .ref qB), (1, .int x1)]) hx hb dX4_take_3 rfl hl (by decide) rfl (fun ls hl => ?_)
  obtain ⟨x2_10, twos_11, hlp, hf⟩ := bd2_el hf
  refine l_X4_take_b4 C0 hXs (fun x2_10 twos_11 q9 H locs ls hP hD hS hl => ?_) N _ _ _ hlp H locs ls hP hD hS (lv_sub hl [2, 3, 1, 0] rfl)
  cases q9
  refine lv_aload_n hx hb dX4_take_43 rfl (lv_at hl 0 rfl) ?_
  refine lv_iload_n hx hb dX4_take_44 rfl (lv_at hl 2 rfl) ?_
  refine va_put (D := (dC, dI)) (ci := 3) (v := .int x2_10) (ty := .int) (C := RX4) (T := TX4) (N := 3) hx hb hts hn_X4_take_X4 tyX4 tyX4_ok nmX4 hown hK hP hD hS 0 rfl rfl 2 (by decide) (hts (.fieldLink RX4 26 "MetAgents$RuleBook" "count" "I") (List.mem_of_getElem? (i := 1) rfl)) (fun _ h9 => h9) rfl (by decide +kernel) rfl rfl (Nat.le_of_ble_eq_true rfl) dX4_take_45 (fun H locs (hP : va_P (dC, dI) vwCl (w_X4_take cyI cyJ cyZ qB q_twos q_outs x2_10 twos_11 outs) H) (hD : va_D A (w_X4_take cyI cyJ cyZ qB q_twos q_outs x2_10 twos_11 outs)) hS => ?_)
  refine lv_aload_n hx hb dX4_take_48 rfl (lv_at hl 0 rfl) ?_
  refine va_get (D := (dC, dI)) (ci := 3) (v := .ref q_outs) (C := RX4) (T := TX4) (N := 3) hx hb hts hn_X4_take_X4 hown hK hP 0 rfl rfl 1 (by decide) (hts (.fieldLink RX4 17 "MetAgents$RuleBook" "outcomes" "[I") (List.mem_of_getElem? (i := 3) rfl)) (fun _ h9 => h9) rfl dX4_take_49 ?_
  refine lv_iload_n hx hb dX4_take_52 rfl (lv_at hl 1 rfl) ?_
  refine lv_iconst (v := (-1)) hx hb dX4_take_53 (by decide) ?_
  obtain ⟨h_12, hf⟩ := gd_el hf
  obtain ⟨outs_13, e_13, hf⟩ := nm_el hf
  refine ast_i (w2 := (w_X4_take cyI cyJ cyZ qB q_twos q_outs x2_10 twos_11 outs_13)) hx hb hK hP hD hS 2 0 rfl rfl (inb_in h_12) e_13 rfl dX4_take_54 (fun H locs hP hD hS => ?_)
  cases hf
  exact W.vret hx hb hr (fun t ht hW => ⟨⟨(), rfl, trivial, by rw [ht]; exact hP, va_K.moved hW.alike hK, hD⟩, hS.F ht⟩) hS.2.2 dX4_take_55
set_option maxHeartbeats 4000000 in
set_option maxRecDepth 100000 in
theorem c_X4_take (l : Launch) (dC : Nat → ClassId) (dI : Nat → Nat → Nat) (cyI cyJ cyZ : ClassId) (qB q_twos q_outs : Nat) (sz N : Nat) (x1 : Int32) (bCount : Int32) (twos : Nat → Int32) (outs : Nat → Int32) (bCount9 : Int32) (twos9 : Nat → Int32) (outs9 : Nat → Int32) (hf : f_X4_take N x1 bCount twos outs = some (bCount9, twos9, outs9)) : Met l yX4_take wsX4_take rm_X4_take (Pz dC dI cyI cyJ cyZ [.ref qB, .int x1] sz (w_X4_take cyI cyJ cyZ qB q_twos q_outs bCount twos outs) X0) (Qzv dC dI cyI cyJ cyZ (va_A (w_X4_take cyI cyJ cyZ qB q_twos q_outs bCount twos outs) sz) (w_X4_take cyI cyJ cyZ qB q_twos q_outs bCount9 twos9 outs9)) 0 0 (va_A (w_X4_take cyI cyJ cyZ qB q_twos q_outs bCount twos outs) sz) := by
  refine Met_of (cc := cX4_take) (maxL := 4) (ret := none) (by decide) rfl (Nat.le_of_ble_eq_true rfl) ?_
  intro p e s m args below meth c ls C0 hsz hXs hP hD hS hl
  exact t_X4_take C0 hXs hf s.heap [] ls hP hD hS hl
abbrev w_X4_put (cyI cyJ cyZ : ClassId) (qB q_twos q_outs : Nat) (bCount : Int32) (twos : Nat → Int32) (outs : Nat → Int32) : va_W := [(qB, .inr (3, [.ref q_twos, .ref q_outs, .int bCount])), (q_twos, .inl (cyI, 12, .inl twos)), (q_outs, .inl (cyI, 36, .inl outs))]
abbrev rm_X4_put : Room := { frames := 1, cells := 0, slots := 0, locals := 23 }
theorem hn_X4_put_X4 : ∀ w ∈ wsX40, w ∈ wsX4_put := fun _ h => List.mem_cons_of_mem _ (List.mem_append_right _ h)
def f_X4_put_j36 (N : Nat) (x1 : Int32) (x2 : Int32) (bCount : Int32) (twos : Nat → Int32) (outs : Nat → Int32) : Option (Int32 × (Nat → Int32) × (Nat → Int32)) :=
  gd (inb bCount 12) (nm (upd twos bCount.toNatClampNeg x1) (fun twos_5 => gd (inb x1 36) (nm (upd outs x1.toNatClampNeg x2) (fun outs_7 => nm (bCount + 1) (fun bCount_8 => some (bCount_8, twos_5, outs_7))))))
set_option maxHeartbeats 4000000 in
set_option maxRecDepth 100000 in
theorem t_X4_put_j36 (C0 : Cx p s m args meth c cX4_put none 3 RX4 wsX4_put A dC dI cyI cyJ cyZ) {qB q_twos q_outs : Nat} (hXs : X0 A s) {N : Nat} {x1 : Int32} {x2 : Int32} {bCount : Int32} {twos : Nat → Int32} {outs : Nat → Int32} {bCount9 : Int32} {twos9 : Nat → Int32} {outs9 : Nat → Int32} (hf : f_X4_put_j36 N x1 x2 bCount twos outs = some (bCount9, twos9, outs9)) (H : Heap) (locs : List Loc) (ls : Array Slot) (hP : va_P (dC, dI) vwCl (w_X4_put cyI cyJ cyZ qB q_twos q_outs bCount twos outs) H) (hD : va_D A (w_X4_put cyI cyJ cyZ qB q_twos q_outs bCount twos outs)) (hS : va_S A s.heap H locs) (hl : lv_has ls 3 [(0, .ref qB), (1, .int x1), (2, .int x2)]) : W p l e rm_X4_put s m args below meth c H locs 0 0 (MQ below (Qzv dC dI cyI cyJ cyZ A (w_X4_put cyI cyJ cyZ qB q_twos q_outs bCount9 twos9 outs9)) args s 0 0 A) (F0 m 36 ls []) := by
  have C1 := C0
  obtain ⟨hx, hb, hr, hlocks, hml, hown, hts, hA, hK⟩ := C1
  unfold f_X4_put_j36 at hf
  refine lv_aload_n hx hb dX4_put_36 rfl (lv_at hl 0 rfl) ?_
  refine va_get (D := (dC, dI)) (ci := 3) (v := .ref q_twos) (C := RX4) (T := TX4) (N := 3) hx hb hts hn_X4_put_X4 hown hK hP 0 rfl rfl 0 (by decide) (hts (.fieldLink RX4 9 "MetAgents$RuleBook" "twos" "[I") (List.mem_of_getElem? (i := 3) rfl)) (fun _ h9 => h9) rfl dX4_put_37 ?_
  refine lv_aload_n hx hb dX4_put_40 rfl (lv_at hl 0 rfl) ?_
  refine va_get (D := (dC, dI)) (ci := 3) (v := .int bCount) (C := RX4) (T := TX4) (N := 3) hx hb hts hn_X4_put_X4 hown hK hP 0 rfl rfl 2 (by decide) (hts (.fieldLink RX4 26 "MetAgents$RuleBook" "count" "I") (List.mem_of_getElem? (i := 2) rfl)) (fun _ h9 => h9) rfl dX4_put_41 ?_
  refine lv_iload_n hx hb dX4_put_44 rfl (lv_at hl 1 rfl) ?_
  obtain ⟨h_4, hf⟩ := gd_el hf
  obtain ⟨twos_5, e_5, hf⟩ := nm_el hf
  refine ast_i (w2 := (w_X4_put cyI cyJ cyZ qB q_twos q_outs bCount twos_5 outs)) hx hb hK hP hD hS 1 0 rfl rfl (inb_in h_4) e_5 rfl dX4_put_45 (fun H locs hP hD hS => ?_)
  refine lv_aload_n hx hb dX4_put_46 rfl (lv_at hl 0 rfl) ?_
  refine va_get (D := (dC, dI)) (ci := 3) (v := .ref q_outs) (C := RX4) (T := TX4) (N := 3) hx hb hts hn_X4_put_X4 hown hK hP 0 rfl rfl 1 (by decide) (hts (.fieldLink RX4 17 "MetAgents$RuleBook" "outcomes" "[I") (List.mem_of_getElem? (i := 1) rfl)) (fun _ h9 => h9) rfl dX4_put_47 ?_
  refine lv_iload_n hx hb dX4_put_50 rfl (lv_at hl 1 rfl) ?_
  refine lv_iload_n hx hb dX4_put_51 rfl (lv_at hl 2 rfl) ?_
  obtain ⟨h_6, hf⟩ := gd_el hf
  obtain ⟨outs_7, e_7, hf⟩ := nm_el hf
  refine ast_i (w2 := (w_X4_put cyI cyJ cyZ qB q_twos q_outs bCount twos_5 outs_7)) hx hb hK hP hD hS 2 0 rfl rfl (inb_in h_6) e_7 rfl dX4_put_52 (fun H locs hP hD hS => ?_)
  refine lv_aload_n hx hb dX4_put_53 rfl (lv_at hl 0 rfl) ?_
  refine lv_dup hx hb dX4_put_54 rfl ?_
  refine va_get (D := (dC, dI)) (ci := 3) (v := .int bCount) (C := RX4) (T := TX4) (N := 3) hx hb hts hn_X4_put_X4 hown hK hP 0 rfl rfl 2 (by decide) (hts (.fieldLink RX4 26 "MetAgents$RuleBook" "count" "I") (List.mem_of_getElem? (i := 2) rfl)) (fun _ h9 => h9) rfl dX4_put_55 ?_
  refine lv_iconst (v := 1) hx hb dX4_put_58 (by decide) ?_
  refine lv_iadd hx hb dX4_put_59 ?_
  obtain ⟨bCount_8, e_8, hf⟩ := nm_el hf
  refine top_i e_8 ?_
  refine va_put (D := (dC, dI)) (ci := 3) (v := .int bCount_8) (ty := .int) (C := RX4) (T := TX4) (N := 3) hx hb hts hn_X4_put_X4 tyX4 tyX4_ok nmX4 hown hK hP hD hS 0 rfl rfl 2 (by decide) (hts (.fieldLink RX4 26 "MetAgents$RuleBook" "count" "I") (List.mem_of_getElem? (i := 2) rfl)) (fun _ h9 => h9) rfl (by decide +kernel) rfl rfl (Nat.le_of_ble_eq_true rfl) dX4_put_60 (fun H locs (hP : va_P (dC, dI) vwCl (w_X4_put cyI cyJ cyZ qB q_twos q_outs bCount_8 twos_5 outs_7) H) (hD : va_D A (w_X4_put cyI cyJ cyZ qB q_twos q_outs bCount_8 twos_5 outs_7)) hS => ?_)
  cases hf
  exact W.vret hx hb hr (fun t ht hW => ⟨⟨(), rfl, trivial, by rw [ht]; exact hP, va_K.moved hW.alike hK, hD⟩, hS.F ht⟩) hS.2.2 dX4_put_63
def f_X4_put (N : Nat) (x1 : Int32) (x2 : Int32) (bCount : Int32) (twos : Nat → Int32) (outs : Nat → Int32) : Option (Int32 × (Nat → Int32) × (Nat → Int32)) :=
  gd (inb x1 36) ((if (outs x1.toNatClampNeg) < 0 then (if bCount < 12 then f_X4_put_j36 N x1 x2 bCount twos outs else gd (inb 0 12) (bd3 (f_X4_take N (twos (0 : Int32).toNatClampNeg) bCount twos outs) (fun bCount_10 twos_11 outs_12 => f_X4_put_j36 N x1 x2 bCount_10 twos_11 outs_12))) else bd3 (f_X4_take N x1 bCount twos outs) (fun bCount_13 twos_14 outs_15 => f_X4_put_j36 N x1 x2 bCount_13 twos_14 outs_15)))
set_option maxHeartbeats 4000000 in
set_option maxRecDepth 100000 in
theorem t_X4_put (C0 : Cx p s m args meth c cX4_put none 3 RX4 wsX4_put A dC dI cyI cyJ cyZ) {qB q_twos q_outs : Nat} (hXs : X0 A s) {N : Nat} {x1 : Int32} {x2 : Int32} {bCount : Int32} {twos : Nat → Int32} {outs : Nat → Int32} {bCount9 : Int32} {twos9 : Nat → Int32} {outs9 : Nat → Int32} (hf : f_X4_put N x1 x2 bCount twos outs = some (bCount9, twos9, outs9)) (H : Heap) (locs : List Loc) (ls : Array Slot) (hP : va_P (dC, dI) vwCl (w_X4_put cyI cyJ cyZ qB q_twos q_outs bCount twos outs) H) (hD : va_D A (w_X4_put cyI cyJ cyZ qB q_twos q_outs bCount twos outs)) (hS : va_S A s.heap H locs) (hl : lv_has ls 3 [(0, .ref qB), (1, .int x1), (2, .int x2)]) : W p l e rm_X4_put s m args below meth c H locs 0 0 (MQ below (Qzv dC dI cyI cyJ cyZ A (w_X4_put cyI cyJ cyZ qB q_twos q_outs bCount9 twos9 outs9)) args s 0 0 A) (F0 m 0 ls []) := by
  have C1 := C0
  obtain ⟨hx, hb, hr, hlocks, hml, hown, hts, hA, hK⟩ := C1
  unfold f_X4_put at hf
  refine lv_aload_n hx hb dX4_put_0 rfl (lv_at hl 0 rfl) ?_
  refine va_get (D := (dC, dI)) (ci := 3) (v := .ref q_outs) (C := RX4) (T := TX4) (N := 3) hx hb hts hn_X4_put_X4 hown hK hP 0 rfl rfl 1 (by decide) (hts (.fieldLink RX4 17 "MetAgents$RuleBook" "outcomes" "[I") (List.mem_of_getElem? (i := 1) rfl)) (fun _ h9 => h9) rfl dX4_put_1 ?_
  refine lv_iload_n hx hb dX4_put_4 rfl (lv_at hl 1 rfl) ?_
  obtain ⟨h_1, hf⟩ := gd_el hf
  refine va_iald hx hb hK hP 2 0 rfl rfl (inb_in h_1) dX4_put_5 ?_
  refine lv_if_lt (tgt := 17) hx hb dX4_put_6 (by decide) (fun c_2 => ?_) (fun c_2 => ?_)
  · replace hf := it_t hf c_2
    refine lv_aload_n hx hb dX4_put_17 rfl (lv_at hl 0 rfl) ?_
    refine va_get (D := (dC, dI)) (ci := 3) (v := .int bCount) (C := RX4) (T := TX4) (N := 3) hx hb hts hn_X4_put_X4 hown hK hP 0 rfl rfl 2 (by decide) (hts (.fieldLink RX4 26 "MetAgents$RuleBook" "count" "I") (List.mem_of_getElem? (i := 2) rfl)) (fun _ h9 => h9) rfl dX4_put_18 ?_
    refine lv_bipush (v := 12) hx hb dX4_put_21 (by decide) ?_
    refine lv_icmp_lt (tgt := 36) hx hb dX4_put_23 (by decide) (fun c_3 => ?_) (fun c_3 => ?_)
    · replace hf := it_t hf c_3
      exact t_X4_put_j36 C0 hXs hf H locs ls hP hD hS (lv_sub hl [0, 1, 2] rfl)
    · replace hf := it_f hf c_3
      refine lv_aload_n hx hb dX4_put_26 rfl (lv_at hl 0 rfl) ?_
      refine lv_aload_n hx hb dX4_put_27 rfl (lv_at hl 0 rfl) ?_
      refine va_get (D := (dC, dI)) (ci := 3) (v := .ref q_twos) (C := RX4) (T := TX4) (N := 3) hx hb hts hn_X4_put_X4 hown hK hP 0 rfl rfl 0 (by decide) (hts (.fieldLink RX4 9 "MetAgents$RuleBook" "twos" "[I") (List.mem_of_getElem? (i := 3) rfl)) (fun _ h9 => h9) rfl dX4_put_28 ?_
      refine lv_iconst (v := 0) hx hb dX4_put_31 (by decide) ?_
      obtain ⟨h_9, hf⟩ := gd_el hf
      refine va_iald hx hb hK hP 1 0 rfl rfl (inb_in h_9) dX4_put_32 ?_
      obtain ⟨bCount_10, twos_11, outs_12, hc, hf⟩ := bd3_el hf
      refine cl_v (wc := (w_X4_take cyI cyJ cyZ qB q_twos q_outs bCount twos outs)) (wr := []) (w1 := (w_X4_take cyI cyJ cyZ qB q_twos q_outs bCount_10 twos_11 outs_12)) (w2 := (w_X4_put cyI cyJ cyZ qB q_twos q_outs bCount_10 twos_11 outs_12)) C0 (rn_V (As := [.int (twos (0 : Int32).toNatClampNeg)]) (rest := []) (wc := (w_X4_take cyI cyJ cyZ qB q_twos q_outs bCount twos outs)) (X := X0) C0 (c_X4_take l dC dI cyI cyJ cyZ qB q_twos q_outs H.size N (twos (0 : Int32).toNatClampNeg) bCount twos outs bCount_10 twos_11 outs_12 hc) (cwV 1 hts gX4_put_X4_take rfl rfl rfl (by decide +kernel) ⟨Nat.le_of_ble_eq_true rfl, Nat.le_of_ble_eq_true rfl⟩) X0_car trivial hP hD hS [0, 1, 2] rfl rfl 0 3 rfl rfl rfl hl.1 rfl (Nat.le_of_ble_eq_true rfl) dX4_put_33 ⟨Nat.le_of_ble_eq_true rfl, Nat.le_of_ble_eq_true rfl⟩) hP hD hS [0, 1, 2] [] [0, 1, 2] rfl rfl rfl (by decide) rfl rfl (fun H locs hP hD hS => ?_)
      exact t_X4_put_j36 C0 hXs hf H locs ls hP hD hS (lv_sub hl [0, 1, 2] rfl)
  · replace hf := it_f hf c_2
    refine lv_aload_n hx hb dX4_put_9 rfl (lv_at hl 0 rfl) ?_
    refine lv_iload_n hx hb dX4_put_10 rfl (lv_at hl 1 rfl) ?_
    obtain ⟨bCount_13, twos_14, outs_15, hc, hf⟩ := bd3_el hf
    refine cl_v (wc := (w_X4_take cyI cyJ cyZ qB q_twos q_outs bCount twos outs)) (wr := []) (w1 := (w_X4_take cyI cyJ cyZ qB q_twos q_outs bCount_13 twos_14 outs_15)) (w2 := (w_X4_put cyI cyJ cyZ qB q_twos q_outs bCount_13 twos_14 outs_15)) C0 (rn_V (As := [.int x1]) (rest := []) (wc := (w_X4_take cyI cyJ cyZ qB q_twos q_outs bCount twos outs)) (X := X0) C0 (c_X4_take l dC dI cyI cyJ cyZ qB q_twos q_outs H.size N x1 bCount twos outs bCount_13 twos_14 outs_15 hc) (cwV 1 hts gX4_put_X4_take rfl rfl rfl (by decide +kernel) ⟨Nat.le_of_ble_eq_true rfl, Nat.le_of_ble_eq_true rfl⟩) X0_car trivial hP hD hS [0, 1, 2] rfl rfl 0 3 rfl rfl rfl hl.1 rfl (Nat.le_of_ble_eq_true rfl) dX4_put_11 ⟨Nat.le_of_ble_eq_true rfl, Nat.le_of_ble_eq_true rfl⟩) hP hD hS [0, 1, 2] [] [0, 1, 2] rfl rfl rfl (by decide) rfl rfl (fun H locs hP hD hS => ?_)
    refine lv_goto (tgt := 36) hx hb dX4_put_14 (by decide) ?_
    exact t_X4_put_j36 C0 hXs hf H locs ls hP hD hS (lv_sub hl [0, 1, 2] rfl)
set_option maxHeartbeats 4000000 in
set_option maxRecDepth 100000 in
theorem c_X4_put (l : Launch) (dC : Nat → ClassId) (dI : Nat → Nat → Nat) (cyI cyJ cyZ : ClassId) (qB q_twos q_outs : Nat) (sz N : Nat) (x1 : Int32) (x2 : Int32) (bCount : Int32) (twos : Nat → Int32) (outs : Nat → Int32) (bCount9 : Int32) (twos9 : Nat → Int32) (outs9 : Nat → Int32) (hf : f_X4_put N x1 x2 bCount twos outs = some (bCount9, twos9, outs9)) : Met l yX4_put wsX4_put rm_X4_put (Pz dC dI cyI cyJ cyZ [.ref qB, .int x1, .int x2] sz (w_X4_put cyI cyJ cyZ qB q_twos q_outs bCount twos outs) X0) (Qzv dC dI cyI cyJ cyZ (va_A (w_X4_put cyI cyJ cyZ qB q_twos q_outs bCount twos outs) sz) (w_X4_put cyI cyJ cyZ qB q_twos q_outs bCount9 twos9 outs9)) 0 0 (va_A (w_X4_put cyI cyJ cyZ qB q_twos q_outs bCount twos outs) sz) := by
  refine Met_of (cc := cX4_put) (maxL := 3) (ret := none) (by decide) rfl (Nat.le_of_ble_eq_true rfl) ?_
  intro p e s m args below meth c ls C0 hsz hXs hP hD hS hl
  exact t_X4_put C0 hXs hf s.heap [] ls hP hD hS hl
abbrev w_J7_fill_53178 (cyI cyJ cyZ : ClassId) (q_arI : Nat) (nQ : Nat) (arI : Nat → Int32) : va_W := [(q_arI, .inl (cyI, nQ, .inl arI))]
abbrev rm_J7_fill_53178 : Room := { frames := 0, cells := 0, slots := 0, locals := 0 }
def f_J7_fill_53178_b5 (N : Nat) (x1 : Int32) (x3 : Int32) (x2 : Int32) (arI : Nat → Int32) : Option ((Int32 × (Nat → Int32)) ⊕ ((Nat → Int32))) :=
  (if x3 ≤ x2 then some (Sum.inr arI) else gd (inb x2 nQ) (nm (upd arI x2.toNatClampNeg x1) (fun arI_4 => nm (x2 + 1) (fun x2_5 => some (Sum.inl (x2_5, arI_4))))))
set_option maxHeartbeats 4000000 in
set_option maxRecDepth 100000 in
theorem t_J7_fill_53178_b5 (C0 : Cx p s m args meth c cJ7_fill_53178 none 4 RJ7 wsJ7_fill_53178 A dC dI cyI cyJ cyZ) {q_arI : Nat} {nQ : Nat} (hXs : X0 A s) {N : Nat} {x1 : Int32} {x3 : Int32} {x2 : Int32} {arI : Nat → Int32} {arI9 : Nat → Int32} {r : (Int32 × (Nat → Int32)) ⊕ ((Nat → Int32))} (hf : f_J7_fill_53178_b5 N x1 x3 x2 arI = some r) (Kh : ∀ (zx2 : Int32) (zarI : Nat → Int32), r = Sum.inl (zx2, zarI) → ∀ (H : Heap) (locs : List Loc) (ls : Array Slot), va_P (dC, dI) vwCl (w_J7_fill_53178 cyI cyJ cyZ q_arI nQ zarI) H → va_D A (w_J7_fill_53178 cyI cyJ cyZ q_arI nQ zarI) → va_S A s.heap H locs → lv_has ls 4 [(0, .ref q_arI), (1, .int x1), (2, .int zx2), (3, .int x3)] → W p l e rm_J7_fill_53178 s m args below meth c H locs 0 0 (MQ below (Qzv dC dI cyI cyJ cyZ A (w_J7_fill_53178 cyI cyJ cyZ q_arI nQ arI9)) args s 0 0 A) (F0 m 5 ls [])) (Ke : ∀ (zarI : Nat → Int32), r = Sum.inr zarI → ∀ (H : Heap) (locs : List Loc) (ls : Array Slot), va_P (dC, dI) vwCl (w_J7_fill_53178 cyI cyJ cyZ q_arI nQ zarI) H → va_D A (w_J7_fill_53178 cyI cyJ cyZ q_arI nQ zarI) → va_S A s.heap H locs → lv_has ls 4 [] → W p l e rm_J7_fill_53178 s m args below meth c H locs 0 0 (MQ below (Qzv dC dI cyI cyJ cyZ A (w_J7_fill_53178 cyI cyJ cyZ q_arI nQ arI9)) args s 0 0 A) (F0 m 20 ls [])) (H : Heap) (locs : List Loc) (ls : Array Slot) (hP : va_P (dC, dI) vwCl (w_J7_fill_53178 cyI cyJ cyZ q_arI nQ arI) H) (hD : va_D A (w_J7_fill_53178 cyI cyJ cyZ q_arI nQ arI)) (hS : va_S A s.heap H locs) (hl : lv_has ls 4 [(0, .ref q_arI), (1, .int x1), (2, .int x2), (3, .int x3)]) : W p l e rm_J7_fill_53178 s m args below meth c H locs 0 0 (MQ below (Qzv dC dI cyI cyJ cyZ A (w_J7_fill_53178 cyI cyJ cyZ q_arI nQ arI9)) args s 0 0 A) (F0 m 5 ls []) := by
  have C1 := C0
  obtain ⟨hx, hb, hr, hlocks, hml, hown, hts, hA, hK⟩ := C1
  unfold f_J7_fill_53178_b5 at hf
  refine lv_iload_n hx hb dJ7_fill_53178_5 rfl (lv_at hl 2 rfl) ?_
  refine lv_iload_n hx hb dJ7_fill_53178_6 rfl (lv_at hl 3 rfl) ?_
  refine lv_icmp_ge (tgt := 20) hx hb dJ7_fill_53178_7 (by decide) (fun c_2 => ?_) (fun c_2 => ?_)
  · replace hf := it_t hf c_2
    exact Ke _ (Option.some.inj hf).symm H locs ls hP hD hS (lv_sub hl [] rfl)
  · replace hf := it_f hf c_2
    refine lv_aload_n hx hb dJ7_fill_53178_10 rfl (lv_at hl 0 rfl) ?_
    refine lv_iload_n hx hb dJ7_fill_53178_11 rfl (lv_at hl 2 rfl) ?_
    refine lv_iload_n hx hb dJ7_fill_53178_12 rfl (lv_at hl 1 rfl) ?_
    obtain ⟨h_3, hf⟩ := gd_el hf
    obtain ⟨arI_4, e_4, hf⟩ := nm_el hf
    refine ast_i (w2 := (w_J7_fill_53178 cyI cyJ cyZ q_arI nQ arI_4)) hx hb hK hP hD hS 0 0 rfl rfl (inb_in h_3) e_4 rfl dJ7_fill_53178_13 (fun H locs hP hD hS => ?_)
    obtain ⟨x2_5, e_5, hf⟩ := nm_el hf
    refine lv_iinc (v := x2_5) (lv' := [(2, .int x2_5), (0, .ref q_arI), (1, .int x1), (3, .int x3)]) hx hb dJ7_fill_53178_14 hl (k := 2) rfl (by rw [e_5]; rfl) (by decide) rfl (fun ls hl => ?_)
    refine lv_goto (tgt := 5) hx hb dJ7_fill_53178_17 (by decide) ?_
    exact Kh _ _ (Option.some.inj hf).symm H locs ls hP hD hS (lv_sub hl [1, 2, 0, 3] rfl)
set_option maxHeartbeats 4000000 in
set_option maxRecDepth 100000 in
theorem l_J7_fill_53178_b5 (C0 : Cx p s m args meth c cJ7_fill_53178 none 4 RJ7 wsJ7_fill_53178 A dC dI cyI cyJ cyZ) {q_arI : Nat} {nQ : Nat} (hXs : X0 A s) {N : Nat} {x1 : Int32} {x3 : Int32} {arI9 : Nat → Int32} {z : (Nat → Int32)} (Ke : ∀ (zarI : Nat → Int32), z = zarI → ∀ (H : Heap) (locs : List Loc) (ls : Array Slot), va_P (dC, dI) vwCl (w_J7_fill_53178 cyI cyJ cyZ q_arI nQ zarI) H → va_D A (w_J7_fill_53178 cyI cyJ cyZ q_arI nQ zarI) → va_S A s.heap H locs → lv_has ls 4 [] → W p l e rm_J7_fill_53178 s m args below meth c H locs 0 0 (MQ below (Qzv dC dI cyI cyJ cyZ A (w_J7_fill_53178 cyI cyJ cyZ q_arI nQ arI9)) args s 0 0 A) (F0 m 20 ls [])) : ∀ (n9 : Nat) (x2 : Int32) (arI : Nat → Int32), loopN (fun (w9 : Int32 × (Nat → Int32)) => f_J7_fill_53178_b5 N x1 x3 w9.1 w9.2) n9 (x2, arI) = some z → ∀ (H : Heap) (locs : List Loc) (ls : Array Slot), va_P (dC, dI) vwCl (w_J7_fill_53178 cyI cyJ cyZ q_arI nQ arI) H → va_D A (w_J7_fill_53178 cyI cyJ cyZ q_arI nQ arI) → va_S A s.heap H locs → lv_has ls 4 [(0, .ref q_arI), (1, .int x1), (2, .int x2), (3, .int x3)] → W p l e rm_J7_fill_53178 s m args below meth c H locs 0 0 (MQ below (Qzv dC dI cyI cyJ cyZ A (w_J7_fill_53178 cyI cyJ cyZ q_arI nQ arI9)) args s 0 0 A) (F0 m 5 ls []) := by
  intro n9
  induction n9 with
  | zero => intro _ _ h; cases h
  | succ n9 ih =>
    intro x2 arI h H locs ls hP hD hS hl
    rcases loopN_el h with ⟨y9, h1, h2⟩ | h1
    · exact t_J7_fill_53178_b5 C0 hXs  h1 (fun zx2 zarI q9 H locs ls hP hD hS hl => ih zx2 zarI (by cases q9; exact h2) H locs ls hP hD hS hl) (fun _ q9 => by cases q9) H locs ls hP hD hS hl
    · exact t_J7_fill_53178_b5 C0 hXs  h1 (fun _ _ q9 => by cases q9) (fun earI q9 => Ke earI (by cases q9; rfl)) H locs ls hP hD hS hl
def f_J7_fill_53178 (N : Nat) (x1 : Int32) (arI : Nat → Int32) : Option ((Nat → Int32)) :=
  nm (nI nQ) (fun x3_1 => bd1 (loopN (fun (w9 : Int32 × (Nat → Int32)) => f_J7_fill_53178_b5 N x1 x3_1 w9.1 w9.2) N (0, arI)) (fun arI_6 => some arI_6))
set_option maxHeartbeats 4000000 in
set_option maxRecDepth 100000 in
theorem t_J7_fill_53178 (C0 : Cx p s m args meth c cJ7_fill_53178 none 4 RJ7 wsJ7_fill_53178 A dC dI cyI cyJ cyZ) {q_arI : Nat} {nQ : Nat} (hXs : X0 A s) {N : Nat} {x1 : Int32} {arI : Nat → Int32} {arI9 : Nat → Int32} (hf : f_J7_fill_53178 N x1 arI = some arI9) (H : Heap) (locs : List Loc) (ls : Array Slot) (hP : va_P (dC, dI) vwCl (w_J7_fill_53178 cyI cyJ cyZ q_arI nQ arI) H) (hD : va_D A (w_J7_fill_53178 cyI cyJ cyZ q_arI nQ arI)) (hS : va_S A s.heap H locs) (hl : lv_has ls 4 [(0, .ref q_arI), (1, .int x1)]) : W p l e rm_J7_fill_53178 s m args below meth c H locs 0 0 (MQ below (Qzv dC dI cyI cyJ cyZ A (w_J7_fill_53178 cyI cyJ cyZ q_arI nQ arI9)) args s 0 0 A) (F0 m 0 ls []) := by
  have C1 := C0
  obtain ⟨hx, hb, hr, hlocks, hml, hown, hts, hA, hK⟩ := C1
  unfold f_J7_fill_53178 at hf
  refine lv_iconst (v := 0) hx hb dJ7_fill_53178_0 (by decide) ?_
  refine lv_istore_n (lv' := [(2, .int 0), (0, .ref q_arI), (1, .int x1)]) hx hb dJ7_fill_53178_1 rfl hl (by decide) rfl (fun ls hl => ?_)
  refine lv_aload_n hx hb dJ7_fill_53178_2 rfl (lv_at hl 1 rfl) ?_
  refine va_alen hx hb hK hP 0 0 rfl rfl rfl dJ7_fill_53178_3 ?_
  obtain ⟨x3_1, e_1, hf⟩ := nm_el hf
  refine top_i e_1 ?_
  refine lv_istore_n (lv' := [(3, .int x3_1), (2, .int 0), (0, .ref q_arI), (1, .int x1)]) hx hb dJ7_fill_53178_4 rfl hl (by decide) rfl (fun ls hl => ?_)
  obtain ⟨arI_6, hlp, hf⟩ := bd1_el hf
  refine l_J7_fill_53178_b5 C0 hXs (fun arI_6 q9 H locs ls hP hD hS hl => ?_) N _ _ hlp H locs ls hP hD hS (lv_sub hl [2, 3, 1, 0] rfl)
  cases q9
  cases hf
  exact W.vret hx hb hr (fun t ht hW => ⟨⟨(), rfl, trivial, by rw [ht]; exact hP, va_K.moved hW.alike hK, hD⟩, hS.F ht⟩) hS.2.2 dJ7_fill_53178_20
set_option maxHeartbeats 4000000 in
set_option maxRecDepth 100000 in
theorem c_J7_fill_53178 (l : Launch) (dC : Nat → ClassId) (dI : Nat → Nat → Nat) (cyI cyJ cyZ : ClassId) (q_arI : Nat) (nQ : Nat) (sz N : Nat) (x1 : Int32) (arI : Nat → Int32) (arI9 : Nat → Int32) (hf : f_J7_fill_53178 N nQ x1 arI = some arI9) : Met l yJ7_fill_53178 wsJ7_fill_53178 rm_J7_fill_53178 (Pz dC dI cyI cyJ cyZ [.ref q_arI, .int x1] sz (w_J7_fill_53178 cyI cyJ cyZ q_arI nQ arI) X0) (Qzv dC dI cyI cyJ cyZ (va_A (w_J7_fill_53178 cyI cyJ cyZ q_arI nQ arI) sz) (w_J7_fill_53178 cyI cyJ cyZ q_arI nQ arI9)) 0 0 (va_A (w_J7_fill_53178 cyI cyJ cyZ q_arI nQ arI) sz) := by
  refine Met_of (cc := cJ7_fill_53178) (maxL := 4) (ret := none) (by decide) rfl (Nat.le_of_ble_eq_true rfl) ?_
  intro p e s m args below meth c ls C0 hsz hXs hP hD hS hl
  exact t_J7_fill_53178 C0 hXs hf s.heap [] ls hP hD hS hl
abbrev w_X4_clear (cyI cyJ cyZ : ClassId) (qB q_twos q_outs : Nat) (bCount : Int32) (outs : Nat → Int32) : va_W := [(qB, .inr (3, [.ref q_twos, .ref q_outs, .int bCount])), (q_outs, .inl (cyI, 36, .inl outs))]
abbrev rm_X4_clear : Room := { frames := 1, cells := 0, slots := 0, locals := 23 }
theorem hn_X4_clear_X4 : ∀ w ∈ wsX40, w ∈ wsX4_clear := fun _ h => List.mem_cons_of_mem _ (List.mem_append_right _ h)
def f_X4_clear (N : Nat) (bCount : Int32) (outs : Nat → Int32) : Option (Int32 × (Nat → Int32)) :=
  bd1 (f_J7_fill_53178 N 36 (-1) outs) (fun outs_1 => some (0, outs_1))
set_option maxHeartbeats 4000000 in
set_option maxRecDepth 100000 in
theorem t_X4_clear (C0 : Cx p s m args meth c cX4_clear none 1 RX4 wsX4_clear A dC dI cyI cyJ cyZ) {qB q_twos q_outs : Nat} (hXs : X0 A s) {N : Nat} {bCount : Int32} {outs : Nat → Int32} {bCount9 : Int32} {outs9 : Nat → Int32} (hf : f_X4_clear N bCount outs = some (bCount9, outs9)) (H : Heap) (locs : List Loc) (ls : Array Slot) (hP : va_P (dC, dI) vwCl (w_X4_clear cyI cyJ cyZ qB q_twos q_outs bCount outs) H) (hD : va_D A (w_X4_clear cyI cyJ cyZ qB q_twos q_outs bCount outs)) (hS : va_S A s.heap H locs) (hl : lv_has ls 1 [(0, .ref qB)]) : W p l e rm_X4_clear s m args below meth c H locs 0 0 (MQ below (Qzv dC dI cyI cyJ cyZ A (w_X4_clear cyI cyJ cyZ qB q_twos q_outs bCount9 outs9)) args s 0 0 A) (F0 m 0 ls []) := by
  have C1 := C0
  obtain ⟨hx, hb, hr, hlocks, hml, hown, hts, hA, hK⟩ := C1
  unfold f_X4_clear at hf
  refine lv_aload_n hx hb dX4_clear_0 rfl (lv_at hl 0 rfl) ?_
  refine va_get (D := (dC, dI)) (ci := 3) (v := .ref q_outs) (C := RX4) (T := TX4) (N := 3) hx hb hts hn_X4_clear_X4 hown hK hP 0 rfl rfl 1 (by decide) (hts (.fieldLink RX4 17 "MetAgents$RuleBook" "outcomes" "[I") (List.mem_of_getElem? (i := 1) rfl)) (fun _ h9 => h9) rfl dX4_clear_1 ?_
  refine lv_iconst (v := (-1)) hx hb dX4_clear_4 (by decide) ?_
  obtain ⟨outs_1, hc, hf⟩ := bd1_el hf
  refine cl_v (wc := (w_J7_fill_53178 cyI cyJ cyZ q_outs 36 outs)) (wr := [(qB, .inr (3, [.ref q_twos, .ref q_outs, .int bCount]))]) (w1 := (w_J7_fill_53178 cyI cyJ cyZ q_outs 36 outs_1)) (w2 := (w_X4_clear cyI cyJ cyZ qB q_twos q_outs bCount outs_1)) C0 (rn_S (As := [.ref q_outs, .int (-1)]) (rest := []) (wc := (w_J7_fill_53178 cyI cyJ cyZ q_outs 36 outs)) (X := X0) C0 (c_J7_fill_53178 l dC dI cyI cyJ cyZ q_outs 36 H.size N (-1) outs outs_1 hc) (va_cwS 2 hts gX4_clear_J7_fill_53178 rfl rfl rfl (by decide +kernel) ⟨Nat.le_of_ble_eq_true rfl, Nat.le_of_ble_eq_true rfl⟩) X0_car trivial hP hD hS [1] rfl rfl rfl hl.1 rfl (Nat.le_of_ble_eq_true rfl) dX4_clear_5 ⟨Nat.le_of_ble_eq_true rfl, Nat.le_of_ble_eq_true rfl⟩) hP hD hS [1] [0] [0, 1] rfl rfl rfl (by decide) rfl rfl (fun H locs hP hD hS => ?_)
  refine lv_aload_n hx hb dX4_clear_8 rfl (lv_at hl 0 rfl) ?_
  refine lv_iconst (v := 0) hx hb dX4_clear_9 (by decide) ?_
  refine va_put (D := (dC, dI)) (ci := 3) (v := .int 0) (ty := .int) (C := RX4) (T := TX4) (N := 3) hx hb hts hn_X4_clear_X4 tyX4 tyX4_ok nmX4 hown hK hP hD hS 0 rfl rfl 2 (by decide) (hts (.fieldLink RX4 26 "MetAgents$RuleBook" "count" "I") (List.mem_of_getElem? (i := 2) rfl)) (fun _ h9 => h9) rfl (by decide +kernel) rfl rfl (Nat.le_of_ble_eq_true rfl) dX4_clear_10 (fun H locs (hP : va_P (dC, dI) vwCl (w_X4_clear cyI cyJ cyZ qB q_twos q_outs 0 outs_1) H) (hD : va_D A (w_X4_clear cyI cyJ cyZ qB q_twos q_outs 0 outs_1)) hS => ?_)
  cases hf
  exact W.vret hx hb hr (fun t ht hW => ⟨⟨(), rfl, trivial, by rw [ht]; exact hP, va_K.moved hW.alike hK, hD⟩, hS.F ht⟩) hS.2.2 dX4_clear_13
set_option maxHeartbeats 4000000 in
set_option maxRecDepth 100000 in
theorem c_X4_clear (l : Launch) (dC : Nat → ClassId) (dI : Nat → Nat → Nat) (cyI cyJ cyZ : ClassId) (qB q_twos q_outs : Nat) (sz N : Nat) (bCount : Int32) (outs : Nat → Int32) (bCount9 : Int32) (outs9 : Nat → Int32) (hf : f_X4_clear N bCount outs = some (bCount9, outs9)) : Met l yX4_clear wsX4_clear rm_X4_clear (Pz dC dI cyI cyJ cyZ [.ref qB] sz (w_X4_clear cyI cyJ cyZ qB q_twos q_outs bCount outs) X0) (Qzv dC dI cyI cyJ cyZ (va_A (w_X4_clear cyI cyJ cyZ qB q_twos q_outs bCount outs) sz) (w_X4_clear cyI cyJ cyZ qB q_twos q_outs bCount9 outs9)) 0 0 (va_A (w_X4_clear cyI cyJ cyZ qB q_twos q_outs bCount outs) sz) := by
  refine Met_of (cc := cX4_clear) (maxL := 1) (ret := none) (by decide) rfl (Nat.le_of_ble_eq_true rfl) ?_
  intro p e s m args below meth c ls C0 hsz hXs hP hD hS hl
  exact t_X4_clear C0 hXs hf s.heap [] ls hP hD hS hl
end
