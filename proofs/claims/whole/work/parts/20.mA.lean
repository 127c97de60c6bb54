section
variable {p : Program} {l : Launch} {e : Env} {s : State} {m : MethodId} {args : Array Value} {below : List Frame} {meth : Method} {c : Code} {A : Nat → Prop} {dC : Nat → ClassId} {dI : Nat → Nat → Nat} {cyI cyJ cyZ : ClassId}
abbrev w_J7_fill_d0a16 (cyI cyJ cyZ : ClassId) (q_arJ : Nat) (nQ : Nat) (arJ : Nat → Int64) : va_W := [(q_arJ, .inl (cyJ, nQ, .inr (.inl arJ)))]
abbrev rm_J7_fill_d0a16 : Room := { frames := 0, cells := 0, slots := 0, locals := 0 }
def f_J7_fill_d0a16_b6 (N : Nat) (nQ : Nat) (x1 : Int64) (x4 : Int32) (x3 : Int32) (arJ : Nat → Int64) : Option ((Int32 × (Nat → Int64)) ⊕ ((Nat → Int64))) :=
  (if x4 ≤ x3 then some (Sum.inr arJ) else gd (inb x3 nQ) (nm (vp_updL arJ x3.toNatClampNeg x1) (fun arJ_4 => nm (x3 + 1) (fun x3_5 => some (Sum.inl (x3_5, arJ_4))))))
set_option maxHeartbeats 4000000 in
set_option maxRecDepth 100000 in
theorem t_J7_fill_d0a16_b6 (C0 : Cx p s m args meth c cJ7_fill_d0a16 none 5 RJ7 wsJ7_fill_d0a16 A dC dI cyI cyJ cyZ) {q_arJ : Nat} {nQ : Nat} (hXs : X0 A s) {N : Nat} {x1 : Int64} {x4 : Int32} {x3 : Int32} {arJ : Nat → Int64} {arJ9 : Nat → Int64} {r : (Int32 × (Nat → Int64)) ⊕ ((Nat → Int64))} (hf : f_J7_fill_d0a16_b6 N nQ x1 x4 x3 arJ = some r) (Kh : ∀ (zx3 : Int32) (zarJ : Nat → Int64), r = Sum.inl (zx3, zarJ) → ∀ (H : Heap) (locs : List Loc) (ls : Array Slot), va_P (dC, dI) vwCl (w_J7_fill_d0a16 cyI cyJ cyZ q_arJ nQ zarJ) H → va_D A (w_J7_fill_d0a16 cyI cyJ cyZ q_arJ nQ zarJ) → va_S A s.heap H locs → lv_has ls 5 [(0, .ref q_arJ), (1, .long x1), (3, .int zx3), (4, .int x4)] → W p l e rm_J7_fill_d0a16 s m args below meth c H locs 0 0 (MQ below (Qzv dC dI cyI cyJ cyZ A (w_J7_fill_d0a16 cyI cyJ cyZ q_arJ nQ arJ9)) args s 0 0 A) (F0 m 6 ls [])) (Ke : ∀ (zarJ : Nat → Int64), r = Sum.inr zarJ → ∀ (H : Heap) (locs : List Loc) (ls : Array Slot), va_P (dC, dI) vwCl (w_J7_fill_d0a16 cyI cyJ cyZ q_arJ nQ zarJ) H → va_D A (w_J7_fill_d0a16 cyI cyJ cyZ q_arJ nQ zarJ) → va_S A s.heap H locs → lv_has ls 5 [] → W p l e rm_J7_fill_d0a16 s m args below meth c H locs 0 0 (MQ below (Qzv dC dI cyI cyJ cyZ A (w_J7_fill_d0a16 cyI cyJ cyZ q_arJ nQ arJ9)) args s 0 0 A) (F0 m 22 ls [])) (H : Heap) (locs : List Loc) (ls : Array Slot) (hP : va_P (dC, dI) vwCl (w_J7_fill_d0a16 cyI cyJ cyZ q_arJ nQ arJ) H) (hD : va_D A (w_J7_fill_d0a16 cyI cyJ cyZ q_arJ nQ arJ)) (hS : va_S A s.heap H locs) (hl : lv_has ls 5 [(0, .ref q_arJ), (1, .long x1), (3, .int x3), (4, .int x4)]) : W p l e rm_J7_fill_d0a16 s m args below meth c H locs 0 0 (MQ below (Qzv dC dI cyI cyJ cyZ A (w_J7_fill_d0a16 cyI cyJ cyZ q_arJ nQ arJ9)) args s 0 0 A) (F0 m 6 ls []) := by
  have C1 := C0
  obtain ⟨hx, hb, hr, hlocks, hml, hown, hts, hA, hK⟩ := C1
  unfold f_J7_fill_d0a16_b6 at hf
  refine lv_iload_n hx hb dJ7_fill_d0a16_6 rfl (lv_at hl 2 rfl) ?_
  refine lv_iload hx hb dJ7_fill_d0a16_7 (lv_at hl 3 rfl) ?_
  refine lv_icmp_ge (tgt := 22) hx hb dJ7_fill_d0a16_9 (by decide) (fun c_2 => ?_) (fun c_2 => ?_)
  · replace hf := it_t hf c_2
    exact Ke _ (Option.some.inj hf).symm H locs ls hP hD hS (lv_sub hl [] rfl)
  · replace hf := it_f hf c_2
    refine lv_aload_n hx hb dJ7_fill_d0a16_12 rfl (lv_at hl 0 rfl) ?_
    refine lv_iload_n hx hb dJ7_fill_d0a16_13 rfl (lv_at hl 2 rfl) ?_
    refine lv_lload_n hx hb dJ7_fill_d0a16_14 rfl (lv_at hl 1 rfl) ?_
    obtain ⟨h_3, hf⟩ := gd_el hf
    obtain ⟨arJ_4, e_4, hf⟩ := nm_el hf
    refine ast_l (w2 := (w_J7_fill_d0a16 cyI cyJ cyZ q_arJ nQ arJ_4)) hx hb hK hP hD hS 0 1 rfl rfl (inb_in h_3) e_4 rfl dJ7_fill_d0a16_15 (fun H locs hP hD hS => ?_)
    obtain ⟨x3_5, e_5, hf⟩ := nm_el hf
    refine lv_iinc (v := x3_5) (lv' := [(3, .int x3_5), (0, .ref q_arJ), (1, .long x1), (4, .int x4)]) hx hb dJ7_fill_d0a16_16 hl (k := 2) rfl (by rw [e_5]; rfl) (by decide) rfl (fun ls hl => ?_)
    refine lv_goto (tgt := 6) hx hb dJ7_fill_d0a16_19 (by decide) ?_
    exact Kh _ _ (Option.some.inj hf).symm H locs ls hP hD hS (lv_sub hl [1, 2, 0, 3] rfl)
set_option maxHeartbeats 4000000 in
set_option maxRecDepth 100000 in
theorem l_J7_fill_d0a16_b6 (C0 : Cx p s m args meth c cJ7_fill_d0a16 none 5 RJ7 wsJ7_fill_d0a16 A dC dI cyI cyJ cyZ) {q_arJ : Nat} {nQ : Nat} (hXs : X0 A s) {N : Nat} {x1 : Int64} {x4 : Int32} {arJ9 : Nat → Int64} {z : (Nat → Int64)} (Ke : ∀ (zarJ : Nat → Int64), z = zarJ → ∀ (H : Heap) (locs : List Loc) (ls : Array Slot), va_P (dC, dI) vwCl (w_J7_fill_d0a16 cyI cyJ cyZ q_arJ nQ zarJ) H → va_D A (w_J7_fill_d0a16 cyI cyJ cyZ q_arJ nQ zarJ) → va_S A s.heap H locs → lv_has ls 5 [] → W p l e rm_J7_fill_d0a16 s m args below meth c H locs 0 0 (MQ below (Qzv dC dI cyI cyJ cyZ A (w_J7_fill_d0a16 cyI cyJ cyZ q_arJ nQ arJ9)) args s 0 0 A) (F0 m 22 ls [])) : ∀ (n9 : Nat) (x3 : Int32) (arJ : Nat → Int64), loopN (fun (w9 : Int32 × (Nat → Int64)) => f_J7_fill_d0a16_b6 N nQ x1 x4 w9.1 w9.2) n9 (x3, arJ) = some z → ∀ (H : Heap) (locs : List Loc) (ls : Array Slot), va_P (dC, dI) vwCl (w_J7_fill_d0a16 cyI cyJ cyZ q_arJ nQ arJ) H → va_D A (w_J7_fill_d0a16 cyI cyJ cyZ q_arJ nQ arJ) → va_S A s.heap H locs → lv_has ls 5 [(0, .ref q_arJ), (1, .long x1), (3, .int x3), (4, .int x4)] → W p l e rm_J7_fill_d0a16 s m args below meth c H locs 0 0 (MQ below (Qzv dC dI cyI cyJ cyZ A (w_J7_fill_d0a16 cyI cyJ cyZ q_arJ nQ arJ9)) args s 0 0 A) (F0 m 6 ls []) := by
  intro n9
  induction n9 with
  | zero => intro _ _ h; cases h
  | succ n9 ih =>
    intro x3 arJ h H locs ls hP hD hS hl
    rcases loopN_el h with ⟨y9, h1, h2⟩ | h1
    · exact t_J7_fill_d0a16_b6 C0 hXs  h1 (fun zx3 zarJ q9 H locs ls hP hD hS hl => ih zx3 zarJ (by cases q9; exact h2) H locs ls hP hD hS hl) (fun _ q9 => by cases q9) H locs ls hP hD hS hl
    · exact t_J7_fill_d0a16_b6 C0 hXs  h1 (fun _ _ q9 => by cases q9) (fun earJ q9 => Ke earJ (by cases q9; rfl)) H locs ls hP hD hS hl
def f_J7_fill_d0a16 (N : Nat) (nQ : Nat) (x1 : Int64) (arJ : Nat → Int64) : Option ((Nat → Int64)) :=
  nm (nI nQ) (fun x4_1 => bd1 (loopN (fun (w9 : Int32 × (Nat → Int64)) => f_J7_fill_d0a16_b6 N nQ x1 x4_1 w9.1 w9.2) N (0, arJ)) (fun arJ_6 => some arJ_6))
set_option maxHeartbeats 4000000 in
set_option maxRecDepth 100000 in
theorem t_J7_fill_d0a16 (C0 : Cx p s m args meth c cJ7_fill_d0a16 none 5 RJ7 wsJ7_fill_d0a16 A dC dI cyI cyJ cyZ) {q_arJ : Nat} {nQ : Nat} (hXs : X0 A s) {N : Nat} {x1 : Int64} {arJ : Nat → Int64} {arJ9 : Nat → Int64} (hf : f_J7_fill_d0a16 N nQ x1 arJ = some arJ9) (H : Heap) (locs : List Loc) (ls : Array Slot) (hP : va_P (dC, dI) vwCl (w_J7_fill_d0a16 cyI cyJ cyZ q_arJ nQ arJ) H) (hD : va_D A (w_J7_fill_d0a16 cyI cyJ cyZ q_arJ nQ arJ)) (hS : va_S A s.heap H locs) (hl : lv_has ls 5 [(0, .ref q_arJ), (1, .long x1)]) : W p l e rm_J7_fill_d0a16 s m args below meth c H locs 0 0 (MQ below (Qzv dC dI cyI cyJ cyZ A (w_J7_fill_d0a16 cyI cyJ cyZ q_arJ nQ arJ9)) args s 0 0 A) (F0 m 0 ls []) := by
  have C1 := C0
  obtain ⟨hx, hb, hr, hlocks, hml, hown, hts, hA, hK⟩ := C1
  unfold f_J7_fill_d0a16 at hf
  refine lv_iconst (v := 0) hx hb dJ7_fill_d0a16_0 (by decide) ?_
  refine lv_istore_n (lv' := [(3, .int 0), (0, .ref q_arJ), (1, .long x1)]) hx hb dJ7_fill_d0a16_1 rfl hl (by decide) rfl (fun ls hl => ?_)
  refine lv_aload_n hx hb dJ7_fill_d0a16_2 rfl (lv_at hl 1 rfl) ?_
  refine va_alen hx hb hK hP 0 1 rfl rfl rfl dJ7_fill_d0a16_3 ?_
  obtain ⟨x4_1, e_1, hf⟩ := nm_el hf
  refine top_i e_1 ?_
  refine lv_istore (lv' := [(4, .int x4_1), (3, .int 0), (0, .ref q_arJ), (1, .long x1)]) hx hb dJ7_fill_d0a16_4 hl (by decide) rfl (fun ls hl => ?_)
  obtain ⟨arJ_6, hlp, hf⟩ := bd1_el hf
  refine l_J7_fill_d0a16_b6 C0 hXs (fun arJ_6 q9 H locs ls hP hD hS hl => ?_) N _ _ hlp H locs ls hP hD hS (lv_sub hl [2, 3, 1, 0] rfl)
  cases q9
  cases hf
  exact W.vret hx hb hr (fun t ht hW => ⟨⟨(), rfl, trivial, by rw [ht]; exact hP, va_K.moved hW.alike hK, hD⟩, hS.F ht⟩) hS.2.2 dJ7_fill_d0a16_22
set_option maxHeartbeats 4000000 in
set_option maxRecDepth 100000 in
theorem c_J7_fill_d0a16 (l : Launch) (dC : Nat → ClassId) (dI : Nat → Nat → Nat) (cyI cyJ cyZ : ClassId) (q_arJ : Nat) (nQ : Nat) (sz N : Nat) (x1 : Int64) (arJ : Nat → Int64) (arJ9 : Nat → Int64) (hf : f_J7_fill_d0a16 N nQ x1 arJ = some arJ9) : Met l yJ7_fill_d0a16 wsJ7_fill_d0a16 rm_J7_fill_d0a16 (Pz dC dI cyI cyJ cyZ [.ref q_arJ, .long x1] sz (w_J7_fill_d0a16 cyI cyJ cyZ q_arJ nQ arJ) X0) (Qzv dC dI cyI cyJ cyZ (va_A (w_J7_fill_d0a16 cyI cyJ cyZ q_arJ nQ arJ) sz) (w_J7_fill_d0a16 cyI cyJ cyZ q_arJ nQ arJ9)) 0 0 (va_A (w_J7_fill_d0a16 cyI cyJ cyZ q_arJ nQ arJ) sz) := by
  refine Met_of (cc := cJ7_fill_d0a16) (maxL := 5) (ret := none) (by decide) rfl (Nat.le_of_ble_eq_true rfl) ?_
  intro p e s m args below meth c ls C0 hsz hXs hP hD hS hl
  exact t_J7_fill_d0a16 C0 hXs hf s.heap [] ls hP hD hS hl
abbrev w_X4_twoAt (cyI cyJ cyZ : ClassId) (qB q_twos q_outs : Nat) (bCount : Int32) (twos : Nat → Int32) : va_W := [(qB, .inr (3, [.ref q_twos, .ref q_outs, .int bCount])), (q_twos, .inl (cyI, 12, .inl twos))]
abbrev rm_X4_twoAt : Room := { frames := 0, cells := 0, slots := 0, locals := 0 }
theorem hn_X4_twoAt_X4 : ∀ w ∈ wsX40, w ∈ wsX4_twoAt := fun _ h => List.mem_cons_of_mem _ (List.mem_append_right _ h)
def f_X4_twoAt (N : Nat) (x1 : Int32) (twos : Nat → Int32) : Option (Int32) :=
  gd (inb x1 12) (some (twos x1.toNatClampNeg))
set_option maxHeartbeats 4000000 in
set_option maxRecDepth 100000 in
theorem t_X4_twoAt (C0 : Cx p s m args meth c cX4_twoAt (some .int) 2 RX4 wsX4_twoAt A dC dI cyI cyJ cyZ) {qB q_twos q_outs : Nat} (hXs : X0 A s) {N : Nat} {x1 : Int32} {twos : Nat → Int32} {bCount : Int32} {r9 : Int32} (hf : f_X4_twoAt N x1 twos = some r9) (H : Heap) (locs : List Loc) (ls : Array Slot) (hP : va_P (dC, dI) vwCl (w_X4_twoAt cyI cyJ cyZ qB q_twos q_outs bCount twos) H) (hD : va_D A (w_X4_twoAt cyI cyJ cyZ qB q_twos q_outs bCount twos)) (hS : va_S A s.heap H locs) (hl : lv_has ls 2 [(0, .ref qB), (1, .int x1)]) : W p l e rm_X4_twoAt s m args below meth c H locs 0 0 (MQ below (Qzi dC dI cyI cyJ cyZ A (w_X4_twoAt cyI cyJ cyZ qB q_twos q_outs bCount twos) r9) args s 0 0 A) (F0 m 0 ls []) := by
  have C1 := C0
  obtain ⟨hx, hb, hr, hlocks, hml, hown, hts, hA, hK⟩ := C1
  unfold f_X4_twoAt at hf
  refine lv_aload_n hx hb dX4_twoAt_0 rfl (lv_at hl 0 rfl) ?_
  refine va_get (D := (dC, dI)) (ci := 3) (v := .ref q_twos) (C := RX4) (T := TX4) (N := 3) hx hb hts hn_X4_twoAt_X4 hown hK hP 0 rfl rfl 0 (by decide) (hts (.fieldLink RX4 9 "MetAgents$RuleBook" "twos" "[I") (List.mem_of_getElem? (i := 1) rfl)) (fun _ h9 => h9) rfl dX4_twoAt_1 ?_
  refine lv_iload_n hx hb dX4_twoAt_4 rfl (lv_at hl 1 rfl) ?_
  obtain ⟨h_1, hf⟩ := gd_el hf
  refine va_iald hx hb hK hP 1 0 rfl rfl (inb_in h_1) dX4_twoAt_5 ?_
  cases hf
  exact W.iret hx hb hr (fun t ht hW => ⟨⟨_, (), rfl, rfl, by rw [ht]; exact hP, va_K.moved hW.alike hK, hD⟩, hS.F ht⟩) hS.2.2 dX4_twoAt_6
set_option maxHeartbeats 4000000 in
set_option maxRecDepth 100000 in
theorem c_X4_twoAt (l : Launch) (dC : Nat → ClassId) (dI : Nat → Nat → Nat) (cyI cyJ cyZ : ClassId) (qB q_twos q_outs : Nat) (sz N : Nat) (x1 : Int32) (twos : Nat → Int32) (bCount : Int32) (r9 : Int32) (hf : f_X4_twoAt N x1 twos = some r9) : Met l yX4_twoAt wsX4_twoAt rm_X4_twoAt (Pz dC dI cyI cyJ cyZ [.ref qB, .int x1] sz (w_X4_twoAt cyI cyJ cyZ qB q_twos q_outs bCount twos) X0) (Qzi dC dI cyI cyJ cyZ (va_A (w_X4_twoAt cyI cyJ cyZ qB q_twos q_outs bCount twos) sz) (w_X4_twoAt cyI cyJ cyZ qB q_twos q_outs bCount twos) r9) 0 0 (va_A (w_X4_twoAt cyI cyJ cyZ qB q_twos q_outs bCount twos) sz) := by
  refine Met_of (cc := cX4_twoAt) (maxL := 2) (ret := (some .int)) (by decide) rfl (Nat.le_of_ble_eq_true rfl) ?_
  intro p e s m args below meth c ls C0 hsz hXs hP hD hS hl
  exact t_X4_twoAt C0 hXs hf s.heap [] ls hP hD hS hl
abbrev w_X5_first (cyI cyJ cyZ : ClassId) : va_W := []
abbrev rm_X5_first : Room := { frames := 0, cells := 0, slots := 0, locals := 0 }
def f_X5_first (N : Nat) (x0 : Int32) : Option (Int32) :=
  some (x0 / 6)
set_option maxHeartbeats 4000000 in
set_option maxRecDepth 100000 in
theorem t_X5_first (C0 : Cx p s m args meth c cX5_first (some .int) 1 RX5 wsX5_first A dC dI cyI cyJ cyZ) (hXs : X0 A s) {N : Nat} {x0 : Int32} {r9 : Int32} (hf : f_X5_first N x0 = some r9) (H : Heap) (locs : List Loc) (ls : Array Slot) (hP : va_P (dC, dI) vwCl (w_X5_first cyI cyJ cyZ) H) (hD : va_D A (w_X5_first cyI cyJ cyZ)) (hS : va_S A s.heap H locs) (hl : lv_has ls 1 [(0, .int x0)]) : W p l e rm_X5_first s m args below meth c H locs 0 0 (MQ below (Qzi dC dI cyI cyJ cyZ A (w_X5_first cyI cyJ cyZ) r9) args s 0 0 A) (F0 m 0 ls []) := by
  have C1 := C0
  obtain ⟨hx, hb, hr, hlocks, hml, hown, hts, hA, hK⟩ := C1
  unfold f_X5_first at hf
  refine lv_iload_n hx hb dX5_first_0 rfl (lv_at hl 0 rfl) ?_
  refine lv_bipush (v := 6) hx hb dX5_first_1 (by decide) ?_
  refine lv_idiv hx hb dX5_first_3 (by decide) ?_
  cases hf
  exact W.iret hx hb hr (fun t ht hW => ⟨⟨_, (), rfl, rfl, by rw [ht]; exact hP, va_K.moved hW.alike hK, hD⟩, hS.F ht⟩) hS.2.2 dX5_first_4
set_option maxHeartbeats 4000000 in
set_option maxRecDepth 100000 in
theorem c_X5_first (l : Launch) (dC : Nat → ClassId) (dI : Nat → Nat → Nat) (cyI cyJ cyZ : ClassId) (sz N : Nat) (x0 : Int32) (r9 : Int32) (hf : f_X5_first N x0 = some r9) : Met l yX5_first wsX5_first rm_X5_first (Pz dC dI cyI cyJ cyZ [.int x0] sz (w_X5_first cyI cyJ cyZ) X0) (Qzi dC dI cyI cyJ cyZ (va_A (w_X5_first cyI cyJ cyZ) sz) (w_X5_first cyI cyJ cyZ) r9) 0 0 (va_A (w_X5_first cyI cyJ cyZ) sz) := by
  refine Met_of (cc := cX5_first) (maxL := 1) (ret := (some .int)) (by decide) rfl (Nat.le_of_ble_eq_true rfl) ?_
  intro p e s m args below meth c ls C0 hsz hXs hP hD hS hl
  exact t_X5_first C0 hXs hf s.heap [] ls hP hD hS hl
abbrev w_X5_second (cyI cyJ cyZ : ClassId) : va_W := []
abbrev rm_X5_second : Room := { frames := 0, cells := 0, slots := 0, locals := 0 }
def f_X5_second (N : Nat) (x0 : Int32) : Option (Int32) :=
  some (x0 - x0 / 6 * 6)
set_option maxHeartbeats 4000000 in
set_option maxRecDepth 100000 in
theorem t_X5_second (C0 : Cx p s m args meth c cX5_second (some .int) 1 RX5 wsX5_second A dC dI cyI cyJ cyZ) (hXs : X0 A s) {N : Nat} {x0 : Int32} {r9 : Int32} (hf : f_X5_second N x0 = some r9) (H : Heap) (locs : List Loc) (ls : Array Slot) (hP : va_P (dC, dI) vwCl (w_X5_second cyI cyJ cyZ) H) (hD : va_D A (w_X5_second cyI cyJ cyZ)) (hS : va_S A s.heap H locs) (hl : lv_has ls 1 [(0, .int x0)]) : W p l e rm_X5_second s m args below meth c H locs 0 0 (MQ below (Qzi dC dI cyI cyJ cyZ A (w_X5_second cyI cyJ cyZ) r9) args s 0 0 A) (F0 m 0 ls []) := by
  have C1 := C0
  obtain ⟨hx, hb, hr, hlocks, hml, hown, hts, hA, hK⟩ := C1
  unfold f_X5_second at hf
  refine lv_iload_n hx hb dX5_second_0 rfl (lv_at hl 0 rfl) ?_
  refine lv_bipush (v := 6) hx hb dX5_second_1 (by decide) ?_
  refine lv_irem hx hb dX5_second_3 (by decide) ?_
  cases hf
  exact W.iret hx hb hr (fun t ht hW => ⟨⟨_, (), rfl, rfl, by rw [ht]; exact hP, va_K.moved hW.alike hK, hD⟩, hS.F ht⟩) hS.2.2 dX5_second_4
set_option maxHeartbeats 4000000 in
set_option maxRecDepth 100000 in
theorem c_X5_second (l : Launch) (dC : Nat → ClassId) (dI : Nat → Nat → Nat) (cyI cyJ cyZ : ClassId) (sz N : Nat) (x0 : Int32) (r9 : Int32) (hf : f_X5_second N x0 = some r9) : Met l yX5_second wsX5_second rm_X5_second (Pz dC dI cyI cyJ cyZ [.int x0] sz (w_X5_second cyI cyJ cyZ) X0) (Qzi dC dI cyI cyJ cyZ (va_A (w_X5_second cyI cyJ cyZ) sz) (w_X5_second cyI cyJ cyZ) r9) 0 0 (va_A (w_X5_second cyI cyJ cyZ) sz) := by
  refine Met_of (cc := cX5_second) (maxL := 1) (ret := (some .int)) (by decide) rfl (Nat.le_of_ble_eq_true rfl) ?_
  intro p e s m args below meth c ls C0 hsz hXs hP hD hS hl
  exact t_X5_second C0 hXs hf s.heap [] ls hP hD hS hl
abbrev w_X1_countIn (cyI cyJ cyZ : ClassId) : va_W := []
abbrev rm_X1_countIn : Room := { frames := 0, cells := 0, slots := 0, locals := 0 }
def f_X1_countIn (N : Nat) (x0 : Int32) (x1 : Int32) : Option (Int32) :=
  some ((x0 >>> ((3 * x1) &&& 31)) &&& 7)
set_option maxHeartbeats 4000000 in
set_option maxRecDepth 100000 in
theorem t_X1_countIn (C0 : Cx p s m args meth c cX1_countIn (some .int) 2 RX1 wsX1_countIn A dC dI cyI cyJ cyZ) (hXs : X0 A s) {N : Nat} {x0 : Int32} {x1 : Int32} {r9 : Int32} (hf : f_X1_countIn N x0 x1 = some r9) (H : Heap) (locs : List Loc) (ls : Array Slot) (hP : va_P (dC, dI) vwCl (w_X1_countIn cyI cyJ cyZ) H) (hD : va_D A (w_X1_countIn cyI cyJ cyZ)) (hS : va_S A s.heap H locs) (hl : lv_has ls 2 [(0, .int x0), (1, .int x1)]) : W p l e rm_X1_countIn s m args below meth c H locs 0 0 (MQ below (Qzi dC dI cyI cyJ cyZ A (w_X1_countIn cyI cyJ cyZ) r9) args s 0 0 A) (F0 m 0 ls []) := by
  have C1 := C0
  obtain ⟨hx, hb, hr, hlocks, hml, hown, hts, hA, hK⟩ := C1
  unfold f_X1_countIn at hf
  refine lv_iload_n hx hb dX1_countIn_0 rfl (lv_at hl 0 rfl) ?_
  refine lv_iconst (v := 3) hx hb dX1_countIn_1 (by decide) ?_
  refine lv_iload_n hx hb dX1_countIn_2 rfl (lv_at hl 1 rfl) ?_
  refine lv_imul hx hb dX1_countIn_3 ?_
  refine lv_ishr hx hb dX1_countIn_4 ?_
  refine lv_bipush (v := 7) hx hb dX1_countIn_5 (by decide) ?_
  refine lv_iand hx hb dX1_countIn_7 ?_
  cases hf
  exact W.iret hx hb hr (fun t ht hW => ⟨⟨_, (), rfl, rfl, by rw [ht]; exact hP, va_K.moved hW.alike hK, hD⟩, hS.F ht⟩) hS.2.2 dX1_countIn_8
set_option maxHeartbeats 4000000 in
set_option maxRecDepth 100000 in
theorem c_X1_countIn (l : Launch) (dC : Nat → ClassId) (dI : Nat → Nat → Nat) (cyI cyJ cyZ : ClassId) (sz N : Nat) (x0 : Int32) (x1 : Int32) (r9 : Int32) (hf : f_X1_countIn N x0 x1 = some r9) : Met l yX1_countIn wsX1_countIn rm_X1_countIn (Pz dC dI cyI cyJ cyZ [.int x0, .int x1] sz (w_X1_countIn cyI cyJ cyZ) X0) (Qzi dC dI cyI cyJ cyZ (va_A (w_X1_countIn cyI cyJ cyZ) sz) (w_X1_countIn cyI cyJ cyZ) r9) 0 0 (va_A (w_X1_countIn cyI cyJ cyZ) sz) := by
  refine Met_of (cc := cX1_countIn) (maxL := 2) (ret := (some .int)) (by decide) rfl (Nat.le_of_ble_eq_true rfl) ?_
  intro p e s m args below meth c ls C0 hsz hXs hP hD hS hl
  exact t_X1_countIn C0 hXs hf s.heap [] ls hP hD hS hl
abbrev w_X1_meetingsOf (cyI cyJ cyZ : ClassId) : va_W := []
abbrev rm_X1_meetingsOf : Room := { frames := 1, cells := 0, slots := 0, locals := 21 }
def f_X1_meetingsOf (N : Nat) (x0 : Int32) (x1 : Int32) : Option (Int32) :=
  bd1 (f_X5_first N x1) (fun r_1 => bd1 (f_X5_second N x1) (fun r_2 => bd1 (f_X1_countIn N x0 r_1) (fun r_3 => (if r_1 = r_2 then some (r_3 * (r_3 - 1)) else bd1 (f_X1_countIn N x0 r_2) (fun r_5 => some (r_3 * r_5))))))
set_option maxHeartbeats 4000000 in
set_option maxRecDepth 100000 in
theorem t_X1_meetingsOf (C0 : Cx p s m args meth c cX1_meetingsOf (some .int) 5 RX1 wsX1_meetingsOf A dC dI cyI cyJ cyZ) (hXs : X0 A s) {N : Nat} {x0 : Int32} {x1 : Int32} {r9 : Int32} (hf : f_X1_meetingsOf N x0 x1 = some r9) (H : Heap) (locs : List Loc) (ls : Array Slot) (hP : va_P (dC, dI) vwCl (w_X1_meetingsOf cyI cyJ cyZ) H) (hD : va_D A (w_X1_meetingsOf cyI cyJ cyZ)) (hS : va_S A s.heap H locs) (hl : lv_has ls 5 [(0, .int x0), (1, .int x1)]) : W p l e rm_X1_meetingsOf s m args below meth c H locs 0 0 (MQ below (Qzi dC dI cyI cyJ cyZ A (w_X1_meetingsOf cyI cyJ cyZ) r9) args s 0 0 A) (F0 m 0 ls []) := by
  have C1 := C0
  obtain ⟨hx, hb, hr, hlocks, hml, hown, hts, hA, hK⟩ := C1
  unfold f_X1_meetingsOf at hf
  refine lv_iload_n hx hb dX1_meetingsOf_0 rfl (lv_at hl 1 rfl) ?_
  obtain ⟨r_1, hc, hf⟩ := bd1_el hf
  refine cl_i (wc := (w_X5_first cyI cyJ cyZ)) (wr := []) (w1 := (w_X5_first cyI cyJ cyZ)) (w2 := (w_X1_meetingsOf cyI cyJ cyZ)) C0 (rn_S (As := [.int x1]) (rest := []) (wc := (w_X5_first cyI cyJ cyZ)) (X := X0) C0 (c_X5_first l dC dI cyI cyJ cyZ H.size N x1 r_1 hc) (va_cwS 1 hts gX1_meetingsOf_X5_first rfl rfl rfl (by decide +kernel) ⟨Nat.le_of_ble_eq_true rfl, Nat.le_of_ble_eq_true rfl⟩) X0_car trivial hP hD hS [] rfl rfl rfl hl.1 rfl (Nat.le_of_ble_eq_true rfl) dX1_meetingsOf_1 ⟨Nat.le_of_ble_eq_true rfl, Nat.le_of_ble_eq_true rfl⟩) hP hD hS [] [] [] rfl rfl rfl (by decide) rfl rfl (fun H locs hP hD hS => ?_)
  refine lv_istore_n (lv' := [(2, .int r_1), (0, .int x0), (1, .int x1)]) hx hb dX1_meetingsOf_4 rfl hl (by decide) rfl (fun ls hl => ?_)
  refine lv_iload_n hx hb dX1_meetingsOf_5 rfl (lv_at hl 2 rfl) ?_
  obtain ⟨r_2, hc, hf⟩ := bd1_el hf
  refine cl_i (wc := (w_X5_second cyI cyJ cyZ)) (wr := []) (w1 := (w_X5_second cyI cyJ cyZ)) (w2 := (w_X1_meetingsOf cyI cyJ cyZ)) C0 (rn_S (As := [.int x1]) (rest := []) (wc := (w_X5_second cyI cyJ cyZ)) (X := X0) C0 (c_X5_second l dC dI cyI cyJ cyZ H.size N x1 r_2 hc) (va_cwS 1 hts gX1_meetingsOf_X5_second rfl rfl rfl (by decide +kernel) ⟨Nat.le_of_ble_eq_true rfl, Nat.le_of_ble_eq_true rfl⟩) X0_car trivial hP hD hS [] rfl rfl rfl hl.1 rfl (Nat.le_of_ble_eq_true rfl) dX1_meetingsOf_6 ⟨Nat.le_of_ble_eq_true rfl, Nat.le_of_ble_eq_true rfl⟩) hP hD hS [] [] [] rfl rfl rfl (by decide) rfl rfl (fun H locs hP hD hS => ?_)
  refine lv_istore_n (lv' := [(3, .int r_2), (2, .int r_1), (0, .int x0), (1, .int x1)]) hx hb dX1_meetingsOf_9 rfl hl (by decide) rfl (fun ls hl => ?_)
  refine lv_iload_n hx hb dX1_meetingsOf_10 rfl (lv_at hl 2 rfl) ?_
  refine lv_iload_n hx hb dX1_meetingsOf_11 rfl (lv_at hl 1 rfl) ?_
  obtain ⟨r_3, hc, hf⟩ := bd1_el hf
  refine cl_i (wc := (w_X1_countIn cyI cyJ cyZ)) (wr := []) (w1 := (w_X1_countIn cyI cyJ cyZ)) (w2 := (w_X1_meetingsOf cyI cyJ cyZ)) C0 (rn_S (As := [.int x0, .int r_1]) (rest := []) (wc := (w_X1_countIn cyI cyJ cyZ)) (X := X0) C0 (c_X1_countIn l dC dI cyI cyJ cyZ H.size N x0 r_1 r_3 hc) (va_cwS 2 hts gX1_meetingsOf_X1_countIn rfl rfl rfl (by decide +kernel) ⟨Nat.le_of_ble_eq_true rfl, Nat.le_of_ble_eq_true rfl⟩) X0_car trivial hP hD hS [] rfl rfl rfl hl.1 rfl (Nat.le_of_ble_eq_true rfl) dX1_meetingsOf_12 ⟨Nat.le_of_ble_eq_true rfl, Nat.le_of_ble_eq_true rfl⟩) hP hD hS [] [] [] rfl rfl rfl (by decide) rfl rfl (fun H locs hP hD hS => ?_)
  refine lv_istore (lv' := [(4, .int r_3), (3, .int r_2), (2, .int r_1), (0, .int x0), (1, .int x1)]) hx hb dX1_meetingsOf_15 hl (by decide) rfl (fun ls hl => ?_)
  refine lv_iload_n hx hb dX1_meetingsOf_17 rfl (lv_at hl 2 rfl) ?_
  refine lv_iload_n hx hb dX1_meetingsOf_18 rfl (lv_at hl 1 rfl) ?_
  refine lv_icmp_ne (tgt := 32) hx hb dX1_meetingsOf_19 (by decide) (fun c_4 => ?_) (fun c_4 => ?_)
  · replace hf := it_f hf c_4
    refine lv_iload hx hb dX1_meetingsOf_32 (lv_at hl 0 rfl) ?_
    refine lv_iload_n hx hb dX1_meetingsOf_34 rfl (lv_at hl 3 rfl) ?_
    refine lv_iload_n hx hb dX1_meetingsOf_35 rfl (lv_at hl 1 rfl) ?_
    obtain ⟨r_5, hc, hf⟩ := bd1_el hf
    refine cl_i (wc := (w_X1_countIn cyI cyJ cyZ)) (wr := []) (w1 := (w_X1_countIn cyI cyJ cyZ)) (w2 := (w_X1_meetingsOf cyI cyJ cyZ)) C0 (rn_S (As := [.int x0, .int r_2]) (rest := [.int r_3]) (wc := (w_X1_countIn cyI cyJ cyZ)) (X := X0) C0 (c_X1_countIn l dC dI cyI cyJ cyZ H.size N x0 r_2 r_5 hc) (va_cwS 2 hts gX1_meetingsOf_X1_countIn rfl rfl rfl (by decide +kernel) ⟨Nat.le_of_ble_eq_true rfl, Nat.le_of_ble_eq_true rfl⟩) X0_car trivial hP hD hS [] rfl rfl rfl hl.1 rfl (Nat.le_of_ble_eq_true rfl) dX1_meetingsOf_36 ⟨Nat.le_of_ble_eq_true rfl, Nat.le_of_ble_eq_true rfl⟩) hP hD hS [] [] [] rfl rfl rfl (by decide) rfl rfl (fun H locs hP hD hS => ?_)
    refine lv_imul hx hb dX1_meetingsOf_39 ?_
    cases hf
    exact W.iret hx hb hr (fun t ht hW => ⟨⟨_, (), rfl, rfl, by rw [ht]; exact hP, va_K.moved hW.alike hK, hD⟩, hS.F ht⟩) hS.2.2 dX1_meetingsOf_40
  · replace hf := it_t hf c_4
    refine lv_iload hx hb dX1_meetingsOf_22 (lv_at hl 0 rfl) ?_
    refine lv_iload hx hb dX1_meetingsOf_24 (lv_at hl 0 rfl) ?_
    refine lv_iconst (v := 1) hx hb dX1_meetingsOf_26 (by decide) ?_
    refine lv_isub hx hb dX1_meetingsOf_27 ?_
    refine lv_imul hx hb dX1_meetingsOf_28 ?_
    refine lv_goto (tgt := 40) hx hb dX1_meetingsOf_29 (by decide) ?_
    cases hf
    exact W.iret hx hb hr (fun t ht hW => ⟨⟨_, (), rfl, rfl, by rw [ht]; exact hP, va_K.moved hW.alike hK, hD⟩, hS.F ht⟩) hS.2.2 dX1_meetingsOf_40
set_option maxHeartbeats 4000000 in
set_option maxRecDepth 100000 in
theorem c_X1_meetingsOf (l : Launch) (dC : Nat → ClassId) (dI : Nat → Nat → Nat) (cyI cyJ cyZ : ClassId) (sz N : Nat) (x0 : Int32) (x1 : Int32) (r9 : Int32) (hf : f_X1_meetingsOf N x0 x1 = some r9) : Met l yX1_meetingsOf wsX1_meetingsOf rm_X1_meetingsOf (Pz dC dI cyI cyJ cyZ [.int x0, .int x1] sz (w_X1_meetingsOf cyI cyJ cyZ) X0) (Qzi dC dI cyI cyJ cyZ (va_A (w_X1_meetingsOf cyI cyJ cyZ) sz) (w_X1_meetingsOf cyI cyJ cyZ) r9) 0 0 (va_A (w_X1_meetingsOf cyI cyJ cyZ) sz) := by
  refine Met_of (cc := cX1_meetingsOf) (maxL := 5) (ret := (some .int)) (by decide) rfl (Nat.le_of_ble_eq_true rfl) ?_
  intro p e s m args below meth c ls C0 hsz hXs hP hD hS hl
  exact t_X1_meetingsOf C0 hXs hf s.heap [] ls hP hD hS hl
abbrev w_X1_one (cyI cyJ cyZ : ClassId) : va_W := []
abbrev rm_X1_one : Room := { frames := 0, cells := 0, slots := 0, locals := 0 }
def f_X1_one (N : Nat) (x0 : Int32) : Option (Int32) :=
  some (1 <<< ((3 * x0) &&& 31))
set_option maxHeartbeats 4000000 in
set_option maxRecDepth 100000 in
theorem t_X1_one (C0 : Cx p s m args meth c cX1_one (some .int) 1 RX1 wsX1_one A dC dI cyI cyJ cyZ) (hXs : X0 A s) {N : Nat} {x0 : Int32} {r9 : Int32} (hf : f_X1_one N x0 = some r9) (H : Heap) (locs : List Loc) (ls : Array Slot) (hP : va_P (dC, dI) vwCl (w_X1_one cyI cyJ cyZ) H) (hD : va_D A (w_X1_one cyI cyJ cyZ)) (hS : va_S A s.heap H locs) (hl : lv_has ls 1 [(0, .int x0)]) : W p l e rm_X1_one s m args below meth c H locs 0 0 (MQ below (Qzi dC dI cyI cyJ cyZ A (w_X1_one cyI cyJ cyZ) r9) args s 0 0 A) (F0 m 0 ls []) := by
  have C1 := C0
  obtain ⟨hx, hb, hr, hlocks, hml, hown, hts, hA, hK⟩ := C1
  unfold f_X1_one at hf
  refine lv_iconst (v := 1) hx hb dX1_one_0 (by decide) ?_
  refine lv_iconst (v := 3) hx hb dX1_one_1 (by decide) ?_
  refine lv_iload_n hx hb dX1_one_2 rfl (lv_at hl 0 rfl) ?_
  refine lv_imul hx hb dX1_one_3 ?_
  refine lv_ishl hx hb dX1_one_4 ?_
  cases hf
  exact W.iret hx hb hr (fun t ht hW => ⟨⟨_, (), rfl, rfl, by rw [ht]; exact hP, va_K.moved hW.alike hK, hD⟩, hS.F ht⟩) hS.2.2 dX1_one_5
set_option maxHeartbeats 4000000 in
set_option maxRecDepth 100000 in
theorem c_X1_one (l : Launch) (dC : Nat → ClassId) (dI : Nat → Nat → Nat) (cyI cyJ cyZ : ClassId) (sz N : Nat) (x0 : Int32) (r9 : Int32) (hf : f_X1_one N x0 = some r9) : Met l yX1_one wsX1_one rm_X1_one (Pz dC dI cyI cyJ cyZ [.int x0] sz (w_X1_one cyI cyJ cyZ) X0) (Qzi dC dI cyI cyJ cyZ (va_A (w_X1_one cyI cyJ cyZ) sz) (w_X1_one cyI cyJ cyZ) r9) 0 0 (va_A (w_X1_one cyI cyJ cyZ) sz) := by
  refine Met_of (cc := cX1_one) (maxL := 1) (ret := (some .int)) (by decide) rfl (Nat.le_of_ble_eq_true rfl) ?_
  intro p e s m args below meth c ls C0 hsz hXs hP hD hS hl
  exact t_X1_one C0 hXs hf s.heap [] ls hP hD hS hl
abbrev w_X1_behind (cyI cyJ cyZ : ClassId) : va_W := []
abbrev rm_X1_behind : Room := { frames := 1, cells := 0, slots := 0, locals := 20 }
def f_X1_behind (N : Nat) (x0 : Int32) (x1 : Int32) (x2 : Int32) : Option (Int32) :=
  bd1 (f_X5_first N x1) (fun r_1 => bd1 (f_X1_one N r_1) (fun r_2 => bd1 (f_X5_second N x1) (fun r_3 => bd1 (f_X1_one N r_3) (fun r_4 => bd1 (f_X5_first N x2) (fun r_5 => bd1 (f_X1_one N r_5) (fun r_6 => bd1 (f_X5_second N x2) (fun r_7 => bd1 (f_X1_one N r_7) (fun r_8 => some ((((x0 - r_2) - r_4) + r_6) + r_8)))))))))
set_option maxHeartbeats 4000000 in
set_option maxRecDepth 100000 in
theorem t_X1_behind (C0 : Cx p s m args meth c cX1_behind (some .int) 3 RX1 wsX1_behind A dC dI cyI cyJ cyZ) (hXs : X0 A s) {N : Nat} {x0 : Int32} {x1 : Int32} {x2 : Int32} {r9 : Int32} (hf : f_X1_behind N x0 x1 x2 = some r9) (H : Heap) (locs : List Loc) (ls : Array Slot) (hP : va_P (dC, dI) vwCl (w_X1_behind cyI cyJ cyZ) H) (hD : va_D A (w_X1_behind cyI cyJ cyZ)) (hS : va_S A s.heap H locs) (hl : lv_has ls 3 [(0, .int x0), (1, .int x1), (2, .int x2)]) : W p l e rm_X1_behind s m args below meth c H locs 0 0 (MQ below (Qzi dC dI cyI cyJ cyZ A (w_X1_behind cyI cyJ cyZ) r9) args s 0 0 A) (F0 m 0 ls []) := by
  have C1 := C0
  obtain ⟨hx, hb, hr, hlocks, hml, hown, hts, hA, hK⟩ := C1
  unfold f_X1_behind at hf
  refine lv_iload_n hx hb dX1_behind_0 rfl (lv_at hl 0 rfl) ?_
  refine lv_iload_n hx hb dX1_behind_1 rfl (lv_at hl 1 rfl) ?_
  obtain ⟨r_1, hc, hf⟩ := bd1_el hf
  refine cl_i (wc := (w_X5_first cyI cyJ cyZ)) (wr := []) (w1 := (w_X5_first cyI cyJ cyZ)) (w2 := (w_X1_behind cyI cyJ cyZ)) C0 (rn_S (As := [.int x1]) (rest := [.int x0]) (wc := (w_X5_first cyI cyJ cyZ)) (X := X0) C0 (c_X5_first l dC dI cyI cyJ cyZ H.size N x1 r_1 hc) (va_cwS 1 hts gX1_behind_X5_first rfl rfl rfl (by decide +kernel) ⟨Nat.le_of_ble_eq_true rfl, Nat.le_of_ble_eq_true rfl⟩) X0_car trivial hP hD hS [] rfl rfl rfl hl.1 rfl (Nat.le_of_ble_eq_true rfl) dX1_behind_2 ⟨Nat.le_of_ble_eq_true rfl, Nat.le_of_ble_eq_true rfl⟩) hP hD hS [] [] [] rfl rfl rfl (by decide) rfl rfl (fun H locs hP hD hS => ?_)
  obtain ⟨r_2, hc, hf⟩ := bd1_el hf
  refine cl_i (wc := (w_X1_one cyI cyJ cyZ)) (wr := []) (w1 := (w_X1_one cyI cyJ cyZ)) (w2 := (w_X1_behind cyI cyJ cyZ)) C0 (rn_S (As := [.int r_1]) (rest := [.int x0]) (wc := (w_X1_one cyI cyJ cyZ)) (X := X0) C0 (c_X1_one l dC dI cyI cyJ cyZ H.size N r_1 r_2 hc) (va_cwS 1 hts gX1_behind_X1_one rfl rfl rfl (by decide +kernel) ⟨Nat.le_of_ble_eq_true rfl, Nat.le_of_ble_eq_true rfl⟩) X0_car trivial hP hD hS [] rfl rfl rfl hl.1 rfl (Nat.le_of_ble_eq_true rfl) dX1_behind_5 ⟨Nat.le_of_ble_eq_true rfl, Nat.le_of_ble_eq_true rfl⟩) hP hD hS [] [] [] rfl rfl rfl (by decide) rfl rfl (fun H locs hP hD hS => ?_)
  refine lv_isub hx hb dX1_behind_8 ?_
  refine lv_iload_n hx hb dX1_behind_9 rfl (lv_at hl 1 rfl) ?_
  obtain ⟨r_3, hc, hf⟩ := bd1_el hf
  refine cl_i (wc := (w_X5_second cyI cyJ cyZ)) (wr := []) (w1 := (w_X5_second cyI cyJ cyZ)) (w2 := (w_X1_behind cyI cyJ cyZ)) C0 (rn_S (As := [.int x1]) (rest := [.int (x0 - r_2)]) (wc := (w_X5_second cyI cyJ cyZ)) (X := X0) C0 (c_X5_second l dC dI cyI cyJ cyZ H.size N x1 r_3 hc) (va_cwS 1 hts gX1_behind_X5_second rfl rfl rfl (by decide +kernel) ⟨Nat.le_of_ble_eq_true rfl, Nat.le_of_ble_eq_true rfl⟩) X0_car trivial hP hD hS [] rfl rfl rfl hl.1 rfl (Nat.le_of_ble_eq_true rfl) dX1_behind_10 ⟨Nat.le_of_ble_eq_true rfl, Nat.le_of_ble_eq_true rfl⟩) hP hD hS [] [] [] rfl rfl rfl (by decide) rfl rfl (fun H locs hP hD hS => ?_)
  obtain ⟨r_4, hc, hf⟩ := bd1_el hf
  refine cl_i (wc := (w_X1_one cyI cyJ cyZ)) (wr := []) (w1 := (w_X1_one cyI cyJ cyZ)) (w2 := (w_X1_behind cyI cyJ cyZ)) C0 (rn_S (As := [.int r_3]) (rest := [.int (x0 - r_2)]) (wc := (w_X1_one cyI cyJ cyZ)) (X := X0) C0 (c_X1_one l dC dI cyI cyJ cyZ H.size N r_3 r_4 hc) (va_cwS 1 hts gX1_behind_X1_one rfl rfl rfl (by decide +kernel) ⟨Nat.le_of_ble_eq_true rfl, Nat.le_of_ble_eq_true rfl⟩) X0_car trivial hP hD hS [] rfl rfl rfl hl.1 rfl (Nat.le_of_ble_eq_true rfl) dX1_behind_13 ⟨Nat.le_of_ble_eq_true rfl, Nat.le_of_ble_eq_true rfl⟩) hP hD hS [] [] [] rfl rfl rfl (by decide) rfl rfl (fun H locs hP hD hS => ?_)
  refine lv_isub hx hb dX1_behind_16 ?_
  refine lv_iload_n hx hb dX1_behind_17 rfl (lv_at hl 2 rfl) ?_
  obtain ⟨r_5, hc, hf⟩ := bd1_el hf
  refine cl_i (wc := (w_X5_first cyI cyJ cyZ)) (wr := []) (w1 := (w_X5_first cyI cyJ cyZ)) (w2 := (w_X1_behind cyI cyJ cyZ)) C0 (rn_S (As := [.int x2]) (rest := [.int ((x0 - r_2) - r_4)]) (wc := (w_X5_first cyI cyJ cyZ)) (X := X0) C0 (c_X5_first l dC dI cyI cyJ cyZ H.size N x2 r_5 hc) (va_cwS 1 hts gX1_behind_X5_first rfl rfl rfl (by decide +kernel) ⟨Nat.le_of_ble_eq_true rfl, Nat.le_of_ble_eq_true rfl⟩) X0_car trivial hP hD hS [] rfl rfl rfl hl.1 rfl (Nat.le_of_ble_eq_true rfl) dX1_behind_18 ⟨Nat.le_of_ble_eq_true rfl, Nat.le_of_ble_eq_true rfl⟩) hP hD hS [] [] [] rfl rfl rfl (by decide) rfl rfl (fun H locs hP hD hS => ?_)
  obtain ⟨r_6, hc, hf⟩ := bd1_el hf
  refine cl_i (wc := (w_X1_one cyI cyJ cyZ)) (wr := []) (w1 := (w_X1_one cyI cyJ cyZ)) (w2 := (w_X1_behind cyI cyJ cyZ)) C0 (rn_S (As := [.int r_5]) (rest := [.int ((x0 - r_2) - r_4)]) (wc := (w_X1_one cyI cyJ cyZ)) (X := X0) C0 (c_X1_one l dC dI cyI cyJ cyZ H.size N r_5 r_6 hc) (va_cwS 1 hts gX1_behind_X1_one rfl rfl rfl (by decide +kernel) ⟨Nat.le_of_ble_eq_true rfl, Nat.le_of_ble_eq_true rfl⟩) X0_car trivial hP hD hS [] rfl rfl rfl hl.1 rfl (Nat.le_of_ble_eq_true rfl) dX1_behind_21 ⟨Nat.le_of_ble_eq_true rfl, Nat.le_of_ble_eq_true rfl⟩) hP hD hS [] [] [] rfl rfl rfl (by decide) rfl rfl (fun H locs hP hD hS => ?_)
  refine lv_iadd hx hb dX1_behind_24 ?_
  refine lv_iload_n hx hb dX1_behind_25 rfl (lv_at hl 2 rfl) ?_
  obtain ⟨r_7, hc, hf⟩ := bd1_el hf
  refine cl_i (wc := (w_X5_second cyI cyJ cyZ)) (wr := []) (w1 := (w_X5_second cyI cyJ cyZ)) (w2 := (w_X1_behind cyI cyJ cyZ)) C0 (rn_S (As := [.int x2]) (rest := [.int (((x0 - r_2) - r_4) + r_6)]) (wc := (w_X5_second cyI cyJ cyZ)) (X := X0) C0 (c_X5_second l dC dI cyI cyJ cyZ H.size N x2 r_7 hc) (va_cwS 1 hts gX1_behind_X5_second rfl rfl rfl (by decide +kernel) ⟨Nat.le_of_ble_eq_true rfl, Nat.le_of_ble_eq_true rfl⟩) X0_car trivial hP hD hS [] rfl rfl rfl hl.1 rfl (Nat.le_of_ble_eq_true rfl) dX1_behind_26 ⟨Nat.le_of_ble_eq_true rfl, Nat.le_of_ble_eq_true rfl⟩) hP hD hS [] [] [] rfl rfl rfl (by decide) rfl rfl (fun H locs hP hD hS => ?_)
  obtain ⟨r_8, hc, hf⟩ := bd1_el hf
  refine cl_i (wc := (w_X1_one cyI cyJ cyZ)) (wr := []) (w1 := (w_X1_one cyI cyJ cyZ)) (w2 := (w_X1_behind cyI cyJ cyZ)) C0 (rn_S (As := [.int r_7]) (rest := [.int (((x0 - r_2) - r_4) + r_6)]) (wc := (w_X1_one cyI cyJ cyZ)) (X := X0) C0 (c_X1_one l dC dI cyI cyJ cyZ H.size N r_7 r_8 hc) (va_cwS 1 hts gX1_behind_X1_one rfl rfl rfl (by decide +kernel) ⟨Nat.le_of_ble_eq_true rfl, Nat.le_of_ble_eq_true rfl⟩) X0_car trivial hP hD hS [] rfl rfl rfl hl.1 rfl (Nat.le_of_ble_eq_true rfl) dX1_behind_29 ⟨Nat.le_of_ble_eq_true rfl, Nat.le_of_ble_eq_true rfl⟩) hP hD hS [] [] [] rfl rfl rfl (by decide) rfl rfl (fun H locs hP hD hS => ?_)
  refine lv_iadd hx hb dX1_behind_32 ?_
  cases hf
  exact W.iret hx hb hr (fun t ht hW => ⟨⟨_, (), rfl, rfl, by rw [ht]; exact hP, va_K.moved hW.alike hK, hD⟩, hS.F ht⟩) hS.2.2 dX1_behind_33
set_option maxHeartbeats 4000000 in
set_option maxRecDepth 100000 in
theorem c_X1_behind (l : Launch) (dC : Nat → ClassId) (dI : Nat → Nat → Nat) (cyI cyJ cyZ : ClassId) (sz N : Nat) (x0 : Int32) (x1 : Int32) (x2 : Int32) (r9 : Int32) (hf : f_X1_behind N x0 x1 x2 = some r9) : Met l yX1_behind wsX1_behind rm_X1_behind (Pz dC dI cyI cyJ cyZ [.int x0, .int x1, .int x2] sz (w_X1_behind cyI cyJ cyZ) X0) (Qzi dC dI cyI cyJ cyZ (va_A (w_X1_behind cyI cyJ cyZ) sz) (w_X1_behind cyI cyJ cyZ) r9) 0 0 (va_A (w_X1_behind cyI cyJ cyZ) sz) := by
  refine Met_of (cc := cX1_behind) (maxL := 3) (ret := (some .int)) (by decide) rfl (Nat.le_of_ble_eq_true rfl) ?_
  intro p e s m args below meth c ls C0 hsz hXs hP hD hS hl
  exact t_X1_behind C0 hXs hf s.heap [] ls hP hD hS hl
abbrev w_X1_rank (cyI cyJ cyZ : ClassId) : va_W := []
abbrev rm_X1_rank : Room := { frames := 1, cells := 0, slots := 0, locals := 21 }
def f_X1_rank_b6 (N : Nat) (x0 : Int32) (x1 : Int32) (x2 : Int32) (x3 : Int32) : Option ((Int32 × Int32 × Int32) ⊕ ((Int32) ⊕ (Int32))) :=
  (if 6 ≤ (x3 + 1) then some (Sum.inr (Sum.inr x1)) else bd1 (f_X1_countIn N x0 x3) (fun r_2 => nm (x2 + r_2) (fun x2_3 => (if x2_3 ≤ 6 then gd (inb (((x3 * 11) + x2_3) + x3) 55) (nm (x1 + (tbC (((x3 * 11) + x2_3) + x3).toNatClampNeg)) (fun x1_6 => nm (x3 + 1) (fun x3_7 => some (Sum.inl (x1_6, x2_3, x3_7))))) else some (Sum.inr (Sum.inl ((-1))))))))
set_option maxHeartbeats 4000000 in
set_option maxRecDepth 100000 in
theorem t_X1_rank_b6 (C0 : Cx p s m args meth c cX1_rank (some .int) 4 RX1 wsX1_rank A dC dI cyI cyJ cyZ) {tC : Nat} (hXs : (XC tC) A s) {N : Nat} {x0 : Int32} {x1 : Int32} {x2 : Int32} {x3 : Int32} {r9 : Int32} {r : (Int32 × Int32 × Int32) ⊕ ((Int32) ⊕ (Int32))} (hf : f_X1_rank_b6 N x0 x1 x2 x3 = some r) (Kh : ∀ (zx1 : Int32) (zx2 : Int32) (zx3 : Int32), r = Sum.inl (zx1, zx2, zx3) → ∀ (H : Heap) (locs : List Loc) (ls : Array Slot), va_P (dC, dI) vwCl (w_X1_rank cyI cyJ cyZ) H → va_D A (w_X1_rank cyI cyJ cyZ) → va_S A s.heap H locs → lv_has ls 4 [(0, .int x0), (1, .int zx1), (2, .int zx2), (3, .int zx3)] → W p l e rm_X1_rank s m args below meth c H locs 0 0 (MQ below (Qzi dC dI cyI cyJ cyZ A (w_X1_rank cyI cyJ cyZ) r9) args s 0 0 A) (F0 m 6 ls [])) (Ke : ∀ (zx1 : Int32), r = Sum.inr (Sum.inr zx1) → ∀ (H : Heap) (locs : List Loc) (ls : Array Slot), va_P (dC, dI) vwCl (w_X1_rank cyI cyJ cyZ) H → va_D A (w_X1_rank cyI cyJ cyZ) → va_S A s.heap H locs → lv_has ls 4 [(1, .int zx1)] → W p l e rm_X1_rank s m args below meth c H locs 0 0 (MQ below (Qzi dC dI cyI cyJ cyZ A (w_X1_rank cyI cyJ cyZ) r9) args s 0 0 A) (F0 m 51 ls [])) (Kr : ∀ x9 : Int32, r = Sum.inr (Sum.inl x9) → x9 = r9) (H : Heap) (locs : List Loc) (ls : Array Slot) (hP : va_P (dC, dI) vwCl (w_X1_rank cyI cyJ cyZ) H) (hD : va_D A (w_X1_rank cyI cyJ cyZ)) (hS : va_S A s.heap H locs) (hl : lv_has ls 4 [(0, .int x0), (1, .int x1), (2, .int x2), (3, .int x3)]) : W p l e rm_X1_rank s m args below meth c H locs 0 0 (MQ below (Qzi dC dI cyI cyJ cyZ A (w_X1_rank cyI cyJ cyZ) r9) args s 0 0 A) (F0 m 6 ls []) := by
  have C1 := C0
  obtain ⟨hx, hb, hr, hlocks, hml, hown, hts, hA, hK⟩ := C1
  unfold f_X1_rank_b6 at hf
  refine lv_iload_n hx hb dX1_rank_6 rfl (lv_at hl 3 rfl) ?_
  refine lv_iconst (v := 1) hx hb dX1_rank_7 (by decide) ?_
  refine lv_iadd hx hb dX1_rank_8 ?_
  refine lv_bipush (v := 6) hx hb dX1_rank_9 (by decide) ?_
  refine lv_icmp_ge (tgt := 51) hx hb dX1_rank_11 (by decide) (fun c_1 => ?_) (fun c_1 => ?_)
  · replace hf := it_t hf c_1
    exact Ke _ (Option.some.inj hf).symm H locs ls hP hD hS (lv_sub hl [1] rfl)
  · replace hf := it_f hf c_1
    refine lv_iload_n hx hb dX1_rank_14 rfl (lv_at hl 2 rfl) ?_
    refine lv_iload_n hx hb dX1_rank_15 rfl (lv_at hl 0 rfl) ?_
    refine lv_iload_n hx hb dX1_rank_16 rfl (lv_at hl 3 rfl) ?_
    obtain ⟨r_2, hc, hf⟩ := bd1_el hf
    refine cl_i (wc := (w_X1_countIn cyI cyJ cyZ)) (wr := []) (w1 := (w_X1_countIn cyI cyJ cyZ)) (w2 := (w_X1_rank cyI cyJ cyZ)) C0 (rn_S (As := [.int x0, .int x3]) (rest := [.int x2]) (wc := (w_X1_countIn cyI cyJ cyZ)) (X := X0) C0 (c_X1_countIn l dC dI cyI cyJ cyZ H.size N x0 x3 r_2 hc) (va_cwS 2 hts gX1_rank_X1_countIn rfl rfl rfl (by decide +kernel) ⟨Nat.le_of_ble_eq_true rfl, Nat.le_of_ble_eq_true rfl⟩) X0_car trivial hP hD hS [] rfl rfl rfl hl.1 rfl (Nat.le_of_ble_eq_true rfl) dX1_rank_17 ⟨Nat.le_of_ble_eq_true rfl, Nat.le_of_ble_eq_true rfl⟩) hP hD hS [] [] [] rfl rfl rfl (by decide) rfl rfl (fun H locs hP hD hS => ?_)
    refine lv_iadd hx hb dX1_rank_20 ?_
    obtain ⟨x2_3, e_3, hf⟩ := nm_el hf
    refine top_i e_3 ?_
    refine lv_istore_n (lv' := [(2, .int x2_3), (0, .int x0), (1, .int x1), (3, .int x3)]) hx hb dX1_rank_21 rfl hl (by decide) rfl (fun ls hl => ?_)
    refine lv_iload_n hx hb dX1_rank_22 rfl (lv_at hl 0 rfl) ?_
    refine lv_bipush (v := 6) hx hb dX1_rank_23 (by decide) ?_
    refine lv_icmp_le (tgt := 30) hx hb dX1_rank_25 (by decide) (fun c_4 => ?_) (fun c_4 => ?_)
    · replace hf := it_t hf c_4
      refine lv_iload_n hx hb dX1_rank_30 rfl (lv_at hl 2 rfl) ?_
      refine va_gets hx hb hXs.1 hS hown (hts (.fieldLink RX1 27 "MetAgents$Configuration" "CHOICES" "[I") (List.mem_of_getElem? (i := 1) rfl)) (fun _ h9 => h9) dX1_rank_31 ?_
      refine lv_iload_n hx hb dX1_rank_34 rfl (lv_at hl 3 rfl) ?_
      refine lv_bipush (v := 11) hx hb dX1_rank_35 (by decide) ?_
      refine lv_imul hx hb dX1_rank_37 ?_
      refine lv_iload_n hx hb dX1_rank_38 rfl (lv_at hl 0 rfl) ?_
      refine lv_iadd hx hb dX1_rank_39 ?_
      refine lv_iload_n hx hb dX1_rank_40 rfl (lv_at hl 3 rfl) ?_
      refine lv_iadd hx hb dX1_rank_41 ?_
      obtain ⟨h_5, hf⟩ := gd_el hf
      refine va_ti hx hb hXs.2 hS (inb_in h_5) rfl dX1_rank_42 ?_
      refine lv_iadd hx hb dX1_rank_43 ?_
      obtain ⟨x1_6, e_6, hf⟩ := nm_el hf
      refine top_i e_6 ?_
      refine lv_istore_n (lv' := [(1, .int x1_6), (2, .int x2_3), (0, .int x0), (3, .int x3)]) hx hb dX1_rank_44 rfl hl (by decide) rfl (fun ls hl => ?_)
      obtain ⟨x3_7, e_7, hf⟩ := nm_el hf
      refine lv_iinc (v := x3_7) (lv' := [(3, .int x3_7), (1, .int x1_6), (2, .int x2_3), (0, .int x0)]) hx hb dX1_rank_45 hl (k := 3) rfl (by rw [e_7]; rfl) (by decide) rfl (fun ls hl => ?_)
      refine lv_goto (tgt := 6) hx hb dX1_rank_48 (by decide) ?_
      exact Kh _ _ _ (Option.some.inj hf).symm H locs ls hP hD hS (lv_sub hl [3, 1, 2, 0] rfl)
    · replace hf := it_f hf c_4
      refine lv_iconst (v := (-1)) hx hb dX1_rank_28 (by decide) ?_
      cases Kr _ (Option.some.inj hf).symm
      exact W.iret hx hb hr (fun t ht hW => ⟨⟨_, (), rfl, rfl, by rw [ht]; exact hP, va_K.moved hW.alike hK, hD⟩, hS.F ht⟩) hS.2.2 dX1_rank_29
set_option maxHeartbeats 4000000 in
set_option maxRecDepth 100000 in
theorem l_X1_rank_b6 (C0 : Cx p s m args meth c cX1_rank (some .int) 4 RX1 wsX1_rank A dC dI cyI cyJ cyZ) {tC : Nat} (hXs : (XC tC) A s) {N : Nat} {x0 : Int32} {r9 : Int32} {z : (Int32) ⊕ (Int32)} (Ke : ∀ (zx1 : Int32), z = Sum.inr zx1 → ∀ (H : Heap) (locs : List Loc) (ls : Array Slot), va_P (dC, dI) vwCl (w_X1_rank cyI cyJ cyZ) H → va_D A (w_X1_rank cyI cyJ cyZ) → va_S A s.heap H locs → lv_has ls 4 [(1, .int zx1)] → W p l e rm_X1_rank s m args below meth c H locs 0 0 (MQ below (Qzi dC dI cyI cyJ cyZ A (w_X1_rank cyI cyJ cyZ) r9) args s 0 0 A) (F0 m 51 ls [])) (Kr : ∀ x9 : Int32, z = Sum.inl x9 → x9 = r9) : ∀ (n9 : Nat) (x1 : Int32) (x2 : Int32) (x3 : Int32), loopN (fun (w9 : Int32 × Int32 × Int32) => f_X1_rank_b6 N x0 w9.1 w9.2.1 w9.2.2) n9 (x1, x2, x3) = some z → ∀ (H : Heap) (locs : List Loc) (ls : Array Slot), va_P (dC, dI) vwCl (w_X1_rank cyI cyJ cyZ) H → va_D A (w_X1_rank cyI cyJ cyZ) → va_S A s.heap H locs → lv_has ls 4 [(0, .int x0), (1, .int x1), (2, .int x2), (3, .int x3)] → W p l e rm_X1_rank s m args below meth c H locs 0 0 (MQ below (Qzi dC dI cyI cyJ cyZ A (w_X1_rank cyI cyJ cyZ) r9) args s 0 0 A) (F0 m 6 ls []) := by
  intro n9
  induction n9 with
  | zero => intro _ _ _ h; cases h
  | succ n9 ih =>
    intro x1 x2 x3 h H locs ls hP hD hS hl
    rcases loopN_el h with ⟨y9, h1, h2⟩ | h1
    · exact t_X1_rank_b6 C0 hXs  h1 (fun zx1 zx2 zx3 q9 H locs ls hP hD hS hl => ih zx1 zx2 zx3 (by cases q9; exact h2) H locs ls hP hD hS hl) (fun _ q9 => by cases q9) (fun _ q9 => by cases q9) H locs ls hP hD hS hl
    · exact t_X1_rank_b6 C0 hXs  h1 (fun _ _ _ q9 => by cases q9) (fun ex1 q9 => Ke ex1 (by cases q9; rfl)) (fun x9 q9 => Kr x9 (by cases q9; rfl)) H locs ls hP hD hS hl
def f_X1_rank (N : Nat) (x0 : Int32) : Option (Int32) :=
  bs1 (loopN (fun (w9 : Int32 × Int32 × Int32) => f_X1_rank_b6 N x0 w9.1 w9.2.1 w9.2.2) N (0, 0, 0)) (fun x9 => some x9) (fun x1_8 => some x1_8)
set_option maxHeartbeats 4000000 in
set_option maxRecDepth 100000 in
theorem t_X1_rank (C0 : Cx p s m args meth c cX1_rank (some .int) 4 RX1 wsX1_rank A dC dI cyI cyJ cyZ) {tC : Nat} (hXs : (XC tC) A s) {N : Nat} {x0 : Int32} {r9 : Int32} (hf : f_X1_rank N x0 = some r9) (H : Heap) (locs : List Loc) (ls : Array Slot) (hP : va_P (dC, dI) vwCl (w_X1_rank cyI cyJ cyZ) H) (hD : va_D A (w_X1_rank cyI cyJ cyZ)) (hS : va_S A s.heap H locs) (hl : lv_has ls 4 [(0, .int x0)]) : W p l e rm_X1_rank s m args below meth c H locs 0 0 (MQ below (Qzi dC dI cyI cyJ cyZ A (w_X1_rank cyI cyJ cyZ) r9) args s 0 0 A) (F0 m 0 ls []) := by
  have C1 := C0
  obtain ⟨hx, hb, hr, hlocks, hml, hown, hts, hA, hK⟩ := C1
  unfold f_X1_rank at hf
  refine lv_iconst (v := 0) hx hb dX1_rank_0 (by decide) ?_
  refine lv_istore_n (lv' := [(1, .int 0), (0, .int x0)]) hx hb dX1_rank_1 rfl hl (by decide) rfl (fun ls hl => ?_)
  refine lv_iconst (v := 0) hx hb dX1_rank_2 (by decide) ?_
  refine lv_istore_n (lv' := [(2, .int 0), (1, .int 0), (0, .int x0)]) hx hb dX1_rank_3 rfl hl (by decide) rfl (fun ls hl => ?_)
  refine lv_iconst (v := 0) hx hb dX1_rank_4 (by decide) ?_
  refine lv_istore_n (lv' := [(3, .int 0), (2, .int 0), (1, .int 0), (0, .int x0)]) hx hb dX1_rank_5 rfl hl (by decide) rfl (fun ls hl => ?_)
  rcases bs1_el hf with ⟨x9, hlp, hf⟩ | ⟨x1_8, hlp, hf⟩
  · exact l_X1_rank_b6 C0 hXs (fun _ q9 => by cases q9) (fun x9 q9 => by cases q9; exact Option.some.inj hf) N _ _ _ hlp H locs ls hP hD hS (lv_sub hl [3, 2, 1, 0] rfl)
  refine l_X1_rank_b6 C0 hXs (fun x1_8 q9 H locs ls hP hD hS hl => ?_) (fun _ q9 => by cases q9) N _ _ _ hlp H locs ls hP hD hS (lv_sub hl [3, 2, 1, 0] rfl)
  cases q9
  refine lv_iload_n hx hb dX1_rank_51 rfl (lv_at hl 0 rfl) ?_
  cases hf
  exact W.iret hx hb hr (fun t ht hW => ⟨⟨_, (), rfl, rfl, by rw [ht]; exact hP, va_K.moved hW.alike hK, hD⟩, hS.F ht⟩) hS.2.2 dX1_rank_52
set_option maxHeartbeats 4000000 in
set_option maxRecDepth 100000 in
theorem c_X1_rank (l : Launch) (dC : Nat → ClassId) (dI : Nat → Nat → Nat) (cyI cyJ cyZ : ClassId) (tC : Nat) (sz N : Nat) (x0 : Int32) (r9 : Int32) (hf : f_X1_rank N x0 = some r9) : Met l yX1_rank wsX1_rank rm_X1_rank (Pz dC dI cyI cyJ cyZ [.int x0] sz (w_X1_rank cyI cyJ cyZ) (XC tC)) (Qzi dC dI cyI cyJ cyZ (va_A (w_X1_rank cyI cyJ cyZ) sz) (w_X1_rank cyI cyJ cyZ) r9) 0 0 (va_A (w_X1_rank cyI cyJ cyZ) sz) := by
  refine Met_of (cc := cX1_rank) (maxL := 4) (ret := (some .int)) (by decide) rfl (Nat.le_of_ble_eq_true rfl) ?_
  intro p e s m args below meth c ls C0 hsz hXs hP hD hS hl
  exact t_X1_rank C0 hXs hf s.heap [] ls hP hD hS hl
abbrev w_J7_fill_53178 (cyI cyJ cyZ : ClassId) (q_arI : Nat) (nQ : Nat) (arI : Nat → Int32) : va_W := [(q_arI, .inl (cyI, nQ, .inl arI))]
abbrev rm_J7_fill_53178 : Room := { frames := 0, cells := 0, slots := 0, locals := 0 }
def f_J7_fill_53178_b5 (N : Nat) (nQ : Nat) (x1 : Int32) (x3 : Int32) (x2 : Int32) (arI : Nat → Int32) : Option ((Int32 × (Nat → Int32)) ⊕ ((Nat → Int32))) :=
  (if x3 ≤ x2 then some (Sum.inr arI) else gd (inb x2 nQ) (nm (upd arI x2.toNatClampNeg x1) (fun arI_4 => nm (x2 + 1) (fun x2_5 => some (Sum.inl (x2_5, arI_4))))))
set_option maxHeartbeats 4000000 in
set_option maxRecDepth 100000 in
theorem t_J7_fill_53178_b5 (C0 : Cx p s m args meth c cJ7_fill_53178 none 4 RJ7 wsJ7_fill_53178 A dC dI cyI cyJ cyZ) {q_arI : Nat} {nQ : Nat} (hXs : X0 A s) {N : Nat} {x1 : Int32} {x3 : Int32} {x2 : Int32} {arI : Nat → Int32} {arI9 : Nat → Int32} {r : (Int32 × (Nat → Int32)) ⊕ ((Nat → Int32))} (hf : f_J7_fill_53178_b5 N nQ x1 x3 x2 arI = some r) (Kh : ∀ (zx2 : Int32) (zarI : Nat → Int32), r = Sum.inl (zx2, zarI) → ∀ (H : Heap) (locs : List Loc) (ls : Array Slot), va_P (dC, dI) vwCl (w_J7_fill_53178 cyI cyJ cyZ q_arI nQ zarI) H → va_D A (w_J7_fill_53178 cyI cyJ cyZ q_arI nQ zarI) → va_S A s.heap H locs → lv_has ls 4 [(0, .ref q_arI), (1, .int x1), (2, .int zx2), (3, .int x3)] → W p l e rm_J7_fill_53178 s m args below meth c H locs 0 0 (MQ below (Qzv dC dI cyI cyJ cyZ A (w_J7_fill_53178 cyI cyJ cyZ q_arI nQ arI9)) args s 0 0 A) (F0 m 5 ls [])) (Ke : ∀ (zarI : Nat → Int32), r = Sum.inr zarI → ∀ (H : Heap) (locs : List Loc) (ls : Array Slot), va_P (dC, dI) vwCl (w_J7_fill_53178 cyI cyJ cyZ q_arI nQ zarI) H → va_D A (w_J7_fill_53178 cyI cyJ cyZ q_arI nQ zarI) → va_S A s.heap H locs → lv_has ls 4 [] → W p l e rm_J7_fill_53178 s m args below meth c H locs 0 0 (MQ below (Qzv dC dI cyI cyJ cyZ A (w_J7_fill_53178 cyI cyJ cyZ q_arI nQ arI9)) args s 0 0 A) (F0 m 20 ls [])) (H : Heap) (locs : List Loc) (ls : Array Slot) (hP : va_P (dC, dI) vwCl (w_J7_fill_53178 cyI cyJ cyZ q_arI nQ arI) H) (hD : va_D A (w_J7_fill_53178 cyI cyJ cyZ q_arI nQ arI)) (hS : va_S A s.heap H locs) (hl : lv_has ls 4 [(0, .ref q_arI), (1, .int x1), (2, .int x2), (3, .int x3)]) : W p l e rm_J7_fill_53178 s m args below meth c H locs 0 0 (MQ below (Qzv dC dI cyI cyJ cyZ A (w_J7_fill_53178 cyI cyJ cyZ q_arI nQ arI9)) args s 0 0 A) (F0 m 5 ls []) := by
  have C1 := C0
  obtain ⟨hx, hb, hr, hlocks, hml, hown, hts, hA, hK⟩ := C1
  unfold f_J7_fill_53178_b5 at hf
  refine lv_iload_n hx hb dJ7_fill_53178_5 rfl (lv_at hl 2 rfl) ?_
  refine lv_iload_n hx hb dJ7_fill_53178_6 rfl (lv_at hl 3 rfl) ?_
  refine lv_icmp_ge (tgt := 20) hx hb dJ7_fill_53178_7 (by decide) (fun c_2 => ?_) (fun c_2 => ?_)
  · replace hf := it_t hf c_2
    exact Ke _ (Option.some.inj hf).symm H locs ls hP hD hS (lv_sub hl [] rfl)
  · replace hf := it_f hf c_2
    refine lv_aload_n hx hb dJ7_fill_53178_10 rfl (lv_at hl 0 rfl) ?_
    refine lv_iload_n hx hb dJ7_fill_53178_11 rfl (lv_at hl 2 rfl) ?_
    refine lv_iload_n hx hb dJ7_fill_53178_12 rfl (lv_at hl 1 rfl) ?_
    obtain ⟨h_3, hf⟩ := gd_el hf
    obtain ⟨arI_4, e_4, hf⟩ := nm_el hf
    refine ast_i (w2 := (w_J7_fill_53178 cyI cyJ cyZ q_arI nQ arI_4)) hx hb hK hP hD hS 0 0 rfl rfl (inb_in h_3) e_4 rfl dJ7_fill_53178_13 (fun H locs hP hD hS => ?_)
    obtain ⟨x2_5, e_5, hf⟩ := nm_el hf
    refine lv_iinc (v := x2_5) (lv' := [(2, .int x2_5), (0, .ref q_arI), (1, .int x1), (3, .int x3)]) hx hb dJ7_fill_53178_14 hl (k := 2) rfl (by rw [e_5]; rfl) (by decide) rfl (fun ls hl => ?_)
    refine lv_goto (tgt := 5) hx hb dJ7_fill_53178_17 (by decide) ?_
    exact Kh _ _ (Option.some.inj hf).symm H locs ls hP hD hS (lv_sub hl [1, 2, 0, 3] rfl)
set_option maxHeartbeats 4000000 in
set_option maxRecDepth 100000 in
theorem l_J7_fill_53178_b5 (C0 : Cx p s m args meth c cJ7_fill_53178 none 4 RJ7 wsJ7_fill_53178 A dC dI cyI cyJ cyZ) {q_arI : Nat} {nQ : Nat} (hXs : X0 A s) {N : Nat} {x1 : Int32} {x3 : Int32} {arI9 : Nat → Int32} {z : (Nat → Int32)} (Ke : ∀ (zarI : Nat → Int32), z = zarI → ∀ (H : Heap) (locs : List Loc) (ls : Array Slot), va_P (dC, dI) vwCl (w_J7_fill_53178 cyI cyJ cyZ q_arI nQ zarI) H → va_D A (w_J7_fill_53178 cyI cyJ cyZ q_arI nQ zarI) → va_S A s.heap H locs → lv_has ls 4 [] → W p l e rm_J7_fill_53178 s m args below meth c H locs 0 0 (MQ below (Qzv dC dI cyI cyJ cyZ A (w_J7_fill_53178 cyI cyJ cyZ q_arI nQ arI9)) args s 0 0 A) (F0 m 20 ls [])) : ∀ (n9 : Nat) (x2 : Int32) (arI : Nat → Int32), loopN (fun (w9 : Int32 × (Nat → Int32)) => f_J7_fill_53178_b5 N nQ x1 x3 w9.1 w9.2) n9 (x2, arI) = some z → ∀ (H : Heap) (locs : List Loc) (ls : Array Slot), va_P (dC, dI) vwCl (w_J7_fill_53178 cyI cyJ cyZ q_arI nQ arI) H → va_D A (w_J7_fill_53178 cyI cyJ cyZ q_arI nQ arI) → va_S A s.heap H locs → lv_has ls 4 [(0, .ref q_arI), (1, .int x1), (2, .int x2), (3, .int x3)] → W p l e rm_J7_fill_53178 s m args below meth c H locs 0 0 (MQ below (Qzv dC dI cyI cyJ cyZ A (w_J7_fill_53178 cyI cyJ cyZ q_arI nQ arI9)) args s 0 0 A) (F0 m 5 ls []) := by
  intro n9
  induction n9 with
  | zero => intro _ _ h; cases h
  | succ n9 ih =>
    intro x2 arI h H locs ls hP hD hS hl
    rcases loopN_el h with ⟨y9, h1, h2⟩ | h1
    · exact t_J7_fill_53178_b5 C0 hXs  h1 (fun zx2 zarI q9 H locs ls hP hD hS hl => ih zx2 zarI (by cases q9; exact h2) H locs ls hP hD hS hl) (fun _ q9 => by cases q9) H locs ls hP hD hS hl
    · exact t_J7_fill_53178_b5 C0 hXs  h1 (fun _ _ q9 => by cases q9) (fun earI q9 => Ke earI (by cases q9; rfl)) H locs ls hP hD hS hl
def f_J7_fill_53178 (N : Nat) (nQ : Nat) (x1 : Int32) (arI : Nat → Int32) : Option ((Nat → Int32)) :=
  nm (nI nQ) (fun x3_1 => bd1 (loopN (fun (w9 : Int32 × (Nat → Int32)) => f_J7_fill_53178_b5 N nQ x1 x3_1 w9.1 w9.2) N (0, arI)) (fun arI_6 => some arI_6))
set_option maxHeartbeats 4000000 in
set_option maxRecDepth 100000 in
theorem t_J7_fill_53178 (C0 : Cx p s m args meth c cJ7_fill_53178 none 4 RJ7 wsJ7_fill_53178 A dC dI cyI cyJ cyZ) {q_arI : Nat} {nQ : Nat} (hXs : X0 A s) {N : Nat} {x1 : Int32} {arI : Nat → Int32} {arI9 : Nat → Int32} (hf : f_J7_fill_53178 N nQ x1 arI = some arI9) (H : Heap) (locs : List Loc) (ls : Array Slot) (hP : va_P (dC, dI) vwCl (w_J7_fill_53178 cyI cyJ cyZ q_arI nQ arI) H) (hD : va_D A (w_J7_fill_53178 cyI cyJ cyZ q_arI nQ arI)) (hS : va_S A s.heap H locs) (hl : lv_has ls 4 [(0, .ref q_arI), (1, .int x1)]) : W p l e rm_J7_fill_53178 s m args below meth c H locs 0 0 (MQ below (Qzv dC dI cyI cyJ cyZ A (w_J7_fill_53178 cyI cyJ cyZ q_arI nQ arI9)) args s 0 0 A) (F0 m 0 ls []) := by
  have C1 := C0
  obtain ⟨hx, hb, hr, hlocks, hml, hown, hts, hA, hK⟩ := C1
  unfold f_J7_fill_53178 at hf
  refine lv_iconst (v := 0) hx hb dJ7_fill_53178_0 (by decide) ?_
  refine lv_istore_n (lv' := [(2, .int 0), (0, .ref q_arI), (1, .int x1)]) hx hb dJ7_fill_53178_1 rfl hl (by decide) rfl (fun ls hl => ?_)
  refine lv_aload_n hx hb dJ7_fill_53178_2 rfl (lv_at hl 1 rfl) ?_
  refine va_alen hx hb hK hP 0 0 rfl rfl rfl dJ7_fill_53178_3 ?_
  obtain ⟨x3_1, e_1, hf⟩ := nm_el hf
  refine top_i e_1 ?_
  refine lv_istore_n (lv' := [(3, .int x3_1), (2, .int 0), (0, .ref q_arI), (1, .int x1)]) hx hb dJ7_fill_53178_4 rfl hl (by decide) rfl (fun ls hl => ?_)
  obtain ⟨arI_6, hlp, hf⟩ := bd1_el hf
  refine l_J7_fill_53178_b5 C0 hXs (fun arI_6 q9 H locs ls hP hD hS hl => ?_) N _ _ hlp H locs ls hP hD hS (lv_sub hl [2, 3, 1, 0] rfl)
  cases q9
  cases hf
  exact W.vret hx hb hr (fun t ht hW => ⟨⟨(), rfl, trivial, by rw [ht]; exact hP, va_K.moved hW.alike hK, hD⟩, hS.F ht⟩) hS.2.2 dJ7_fill_53178_20
set_option maxHeartbeats 4000000 in
set_option maxRecDepth 100000 in
theorem c_J7_fill_53178 (l : Launch) (dC : Nat → ClassId) (dI : Nat → Nat → Nat) (cyI cyJ cyZ : ClassId) (q_arI : Nat) (nQ : Nat) (sz N : Nat) (x1 : Int32) (arI : Nat → Int32) (arI9 : Nat → Int32) (hf : f_J7_fill_53178 N nQ x1 arI = some arI9) : Met l yJ7_fill_53178 wsJ7_fill_53178 rm_J7_fill_53178 (Pz dC dI cyI cyJ cyZ [.ref q_arI, .int x1] sz (w_J7_fill_53178 cyI cyJ cyZ q_arI nQ arI) X0) (Qzv dC dI cyI cyJ cyZ (va_A (w_J7_fill_53178 cyI cyJ cyZ q_arI nQ arI) sz) (w_J7_fill_53178 cyI cyJ cyZ q_arI nQ arI9)) 0 0 (va_A (w_J7_fill_53178 cyI cyJ cyZ q_arI nQ arI) sz) := by
  refine Met_of (cc := cJ7_fill_53178) (maxL := 4) (ret := none) (by decide) rfl (Nat.le_of_ble_eq_true rfl) ?_
  intro p e s m args below meth c ls C0 hsz hXs hP hD hS hl
  exact t_J7_fill_53178 C0 hXs hf s.heap [] ls hP hD hS hl
abbrev w_X2_leave (cyI cyJ cyZ : ClassId) (qC q_states q_lastMet : Nat) (cSize : Int32) (cMeet : Int32) (cChg : Int32) (cSeed : Int32) (lastMet : Nat → Int32) : va_W := [(qC, .inr (1, [.ref q_states, .ref q_lastMet, .int cSize, .int cMeet, .int cChg, .int cSeed])), (q_lastMet, .inl (cyI, 36, .inl lastMet))]
abbrev rm_X2_leave : Room := { frames := 1, cells := 0, slots := 0, locals := 23 }
theorem hn_X2_leave_X2 : ∀ w ∈ wsX20, w ∈ wsX2_leave := fun _ h => List.mem_cons_of_mem _ (List.mem_append_right _ h)
def f_X2_leave (N : Nat) (cSize : Int32) (cMeet : Int32) (cChg : Int32) (lastMet : Nat → Int32) : Option (Int32 × Int32 × Int32 × (Nat → Int32)) :=
  bd1 (f_J7_fill_53178 N 36 0 lastMet) (fun lastMet_1 => some (0, 0, 0, lastMet_1))
set_option maxHeartbeats 4000000 in
set_option maxRecDepth 100000 in
theorem t_X2_leave (C0 : Cx p s m args meth c cX2_leave none 1 RX2 wsX2_leave A dC dI cyI cyJ cyZ) {qC q_states q_lastMet : Nat} (hXs : X0 A s) {N : Nat} {cSize : Int32} {cMeet : Int32} {cChg : Int32} {lastMet : Nat → Int32} {cSeed : Int32} {cSize9 : Int32} {cMeet9 : Int32} {cChg9 : Int32} {lastMet9 : Nat → Int32} (hf : f_X2_leave N cSize cMeet cChg lastMet = some (cSize9, cMeet9, cChg9, lastMet9)) (H : Heap) (locs : List Loc) (ls : Array Slot) (hP : va_P (dC, dI) vwCl (w_X2_leave cyI cyJ cyZ qC q_states q_lastMet cSize cMeet cChg cSeed lastMet) H) (hD : va_D A (w_X2_leave cyI cyJ cyZ qC q_states q_lastMet cSize cMeet cChg cSeed lastMet)) (hS : va_S A s.heap H locs) (hl : lv_has ls 1 [(0, .ref qC)]) : W p l e rm_X2_leave s m args below meth c H locs 0 0 (MQ below (Qzv dC dI cyI cyJ cyZ A (w_X2_leave cyI cyJ cyZ qC q_states q_lastMet cSize9 cMeet9 cChg9 cSeed lastMet9)) args s 0 0 A) (F0 m 0 ls []) := by
  have C1 := C0
  obtain ⟨hx, hb, hr, hlocks, hml, hown, hts, hA, hK⟩ := C1
  unfold f_X2_leave at hf
  refine lv_aload_n hx hb dX2_leave_0 rfl (lv_at hl 0 rfl) ?_
  refine va_get (D := (dC, dI)) (ci := 1) (v := .ref q_lastMet) (C := RX2) (T := TX2) (N := 6) hx hb hts hn_X2_leave_X2 hown hK hP 0 rfl rfl 1 (by decide) (hts (.fieldLink RX2 15 "MetAgents$Crowd" "lastMet" "[I") (List.mem_of_getElem? (i := 1) rfl)) (fun _ h9 => h9) rfl dX2_leave_1 ?_
  refine lv_iconst (v := 0) hx hb dX2_leave_4 (by decide) ?_
  obtain ⟨lastMet_1, hc, hf⟩ := bd1_el hf
  refine cl_v (wc := (w_J7_fill_53178 cyI cyJ cyZ q_lastMet 36 lastMet)) (wr := [(qC, .inr (1, [.ref q_states, .ref q_lastMet, .int cSize, .int cMeet, .int cChg, .int cSeed]))]) (w1 := (w_J7_fill_53178 cyI cyJ cyZ q_lastMet 36 lastMet_1)) (w2 := (w_X2_leave cyI cyJ cyZ qC q_states q_lastMet cSize cMeet cChg cSeed lastMet_1)) C0 (rn_S (As := [.ref q_lastMet, .int 0]) (rest := []) (wc := (w_J7_fill_53178 cyI cyJ cyZ q_lastMet 36 lastMet)) (X := X0) C0 (c_J7_fill_53178 l dC dI cyI cyJ cyZ q_lastMet 36 H.size N 0 lastMet lastMet_1 hc) (va_cwS 2 hts gX2_leave_J7_fill_53178 rfl rfl rfl (by decide +kernel) ⟨Nat.le_of_ble_eq_true rfl, Nat.le_of_ble_eq_true rfl⟩) X0_car trivial hP hD hS [1] rfl rfl rfl hl.1 rfl (Nat.le_of_ble_eq_true rfl) dX2_leave_5 ⟨Nat.le_of_ble_eq_true rfl, Nat.le_of_ble_eq_true rfl⟩) hP hD hS [1] [0] [0, 1] rfl rfl rfl (by decide) rfl rfl (fun H locs hP hD hS => ?_)
  refine lv_aload_n hx hb dX2_leave_8 rfl (lv_at hl 0 rfl) ?_
  refine lv_iconst (v := 0) hx hb dX2_leave_9 (by decide) ?_
  refine va_put (D := (dC, dI)) (ci := 1) (v := .int 0) (ty := .int) (C := RX2) (T := TX2) (N := 6) hx hb hts hn_X2_leave_X2 tyX2 tyX2_ok nmX2 hown hK hP hD hS 0 rfl rfl 2 (by decide) (hts (.fieldLink RX2 28 "MetAgents$Crowd" "size" "I") (List.mem_of_getElem? (i := 2) rfl)) (fun _ h9 => h9) rfl (by decide +kernel) rfl rfl (Nat.le_of_ble_eq_true rfl) dX2_leave_10 (fun H locs (hP : va_P (dC, dI) vwCl (w_X2_leave cyI cyJ cyZ qC q_states q_lastMet 0 cMeet cChg cSeed lastMet_1) H) (hD : va_D A (w_X2_leave cyI cyJ cyZ qC q_states q_lastMet 0 cMeet cChg cSeed lastMet_1)) hS => ?_)
  refine lv_aload_n hx hb dX2_leave_13 rfl (lv_at hl 0 rfl) ?_
  refine lv_iconst (v := 0) hx hb dX2_leave_14 (by decide) ?_
  refine va_put (D := (dC, dI)) (ci := 1) (v := .int 0) (ty := .int) (C := RX2) (T := TX2) (N := 6) hx hb hts hn_X2_leave_X2 tyX2 tyX2_ok nmX2 hown hK hP hD hS 0 rfl rfl 3 (by decide) (hts (.fieldLink RX2 31 "MetAgents$Crowd" "meetings" "I") (List.mem_of_getElem? (i := 3) rfl)) (fun _ h9 => h9) rfl (by decide +kernel) rfl rfl (Nat.le_of_ble_eq_true rfl) dX2_leave_15 (fun H locs (hP : va_P (dC, dI) vwCl (w_X2_leave cyI cyJ cyZ qC q_states q_lastMet 0 0 cChg cSeed lastMet_1) H) (hD : va_D A (w_X2_leave cyI cyJ cyZ qC q_states q_lastMet 0 0 cChg cSeed lastMet_1)) hS => ?_)
  refine lv_aload_n hx hb dX2_leave_18 rfl (lv_at hl 0 rfl) ?_
  refine lv_iconst (v := 0) hx hb dX2_leave_19 (by decide) ?_
  refine va_put (D := (dC, dI)) (ci := 1) (v := .int 0) (ty := .int) (C := RX2) (T := TX2) (N := 6) hx hb hts hn_X2_leave_X2 tyX2 tyX2_ok nmX2 hown hK hP hD hS 0 rfl rfl 4 (by decide) (hts (.fieldLink RX2 34 "MetAgents$Crowd" "changes" "I") (List.mem_of_getElem? (i := 4) rfl)) (fun _ h9 => h9) rfl (by decide +kernel) rfl rfl (Nat.le_of_ble_eq_true rfl) dX2_leave_20 (fun H locs (hP : va_P (dC, dI) vwCl (w_X2_leave cyI cyJ cyZ qC q_states q_lastMet 0 0 0 cSeed lastMet_1) H) (hD : va_D A (w_X2_leave cyI cyJ cyZ qC q_states q_lastMet 0 0 0 cSeed lastMet_1)) hS => ?_)
  cases hf
  exact W.vret hx hb hr (fun t ht hW => ⟨⟨(), rfl, trivial, by rw [ht]; exact hP, va_K.moved hW.alike hK, hD⟩, hS.F ht⟩) hS.2.2 dX2_leave_23
set_option maxHeartbeats 4000000 in
set_option maxRecDepth 100000 in
theorem c_X2_leave (l : Launch) (dC : Nat → ClassId) (dI : Nat → Nat → Nat) (cyI cyJ cyZ : ClassId) (qC q_states q_lastMet : Nat) (sz N : Nat) (cSize : Int32) (cMeet : Int32) (cChg : Int32) (lastMet : Nat → Int32) (cSeed : Int32) (cSize9 : Int32) (cMeet9 : Int32) (cChg9 : Int32) (lastMet9 : Nat → Int32) (hf : f_X2_leave N cSize cMeet cChg lastMet = some (cSize9, cMeet9, cChg9, lastMet9)) : Met l yX2_leave wsX2_leave rm_X2_leave (Pz dC dI cyI cyJ cyZ [.ref qC] sz (w_X2_leave cyI cyJ cyZ qC q_states q_lastMet cSize cMeet cChg cSeed lastMet) X0) (Qzv dC dI cyI cyJ cyZ (va_A (w_X2_leave cyI cyJ cyZ qC q_states q_lastMet cSize cMeet cChg cSeed lastMet) sz) (w_X2_leave cyI cyJ cyZ qC q_states q_lastMet cSize9 cMeet9 cChg9 cSeed lastMet9)) 0 0 (va_A (w_X2_leave cyI cyJ cyZ qC q_states q_lastMet cSize cMeet cChg cSeed lastMet) sz) := by
  refine Met_of (cc := cX2_leave) (maxL := 1) (ret := none) (by decide) rfl (Nat.le_of_ble_eq_true rfl) ?_
  intro p e s m args below meth c ls C0 hsz hXs hP hD hS hl
  exact t_X2_leave C0 hXs hf s.heap [] ls hP hD hS hl
abbrev w_X2_come (cyI cyJ cyZ : ClassId) (qC q_states q_lastMet : Nat) (cSize : Int32) (cMeet : Int32) (cChg : Int32) (cSeed : Int32) (states : Nat → Int32) : va_W := [(qC, .inr (1, [.ref q_states, .ref q_lastMet, .int cSize, .int cMeet, .int cChg, .int cSeed])), (q_states, .inl (cyI, 6, .inl states))]
abbrev rm_X2_come : Room := { frames := 0, cells := 0, slots := 0, locals := 0 }
theorem hn_X2_come_X2 : ∀ w ∈ wsX20, w ∈ wsX2_come := fun _ h => List.mem_cons_of_mem _ (List.mem_append_right _ h)
def f_X2_come_b2 (N : Nat) (x1 : Int32) (x2 : Int32) (x3 : Int32) (cSize : Int32) (states : Nat → Int32) : Option ((Int32 × Int32 × (Nat → Int32)) ⊕ (Int32 × (Nat → Int32))) :=
  (if x2 ≤ x3 then some (Sum.inr (cSize, states)) else (if 6 ≤ cSize then some (Sum.inr (cSize, states)) else gd (inb cSize 6) (nm (upd states cSize.toNatClampNeg x1) (fun states_4 => nm (cSize + 1) (fun cSize_5 => nm (x3 + 1) (fun x3_6 => some (Sum.inl (x3_6, cSize_5, states_4))))))))
set_option maxHeartbeats 4000000 in
set_option maxRecDepth 100000 in
theorem t_X2_come_b2 (C0 : Cx p s m args meth c cX2_come none 4 RX2 wsX2_come A dC dI cyI cyJ cyZ) {qC q_states q_lastMet : Nat} (hXs : X0 A s) {N : Nat} {x1 : Int32} {x2 : Int32} {x3 : Int32} {cSize : Int32} {states : Nat → Int32} {cMeet : Int32} {cChg : Int32} {cSeed : Int32} {cSize9 : Int32} {states9 : Nat → Int32} {r : (Int32 × Int32 × (Nat → Int32)) ⊕ (Int32 × (Nat → Int32))} (hf : f_X2_come_b2 N x1 x2 x3 cSize states = some r) (Kh : ∀ (zx3 : Int32) (zcSize : Int32) (zstates : Nat → Int32), r = Sum.inl (zx3, zcSize, zstates) → ∀ (H : Heap) (locs : List Loc) (ls : Array Slot), va_P (dC, dI) vwCl (w_X2_come cyI cyJ cyZ qC q_states q_lastMet zcSize cMeet cChg cSeed zstates) H → va_D A (w_X2_come cyI cyJ cyZ qC q_states q_lastMet zcSize cMeet cChg cSeed zstates) → va_S A s.heap H locs → lv_has ls 4 [(0, .ref qC), (1, .int x1), (2, .int x2), (3, .int zx3)] → W p l e rm_X2_come s m args below meth c H locs 0 0 (MQ below (Qzv dC dI cyI cyJ cyZ A (w_X2_come cyI cyJ cyZ qC q_states q_lastMet cSize9 cMeet cChg cSeed states9)) args s 0 0 A) (F0 m 2 ls [])) (Ke : ∀ (zcSize : Int32) (zstates : Nat → Int32), r = Sum.inr (zcSize, zstates) → ∀ (H : Heap) (locs : List Loc) (ls : Array Slot), va_P (dC, dI) vwCl (w_X2_come cyI cyJ cyZ qC q_states q_lastMet zcSize cMeet cChg cSeed zstates) H → va_D A (w_X2_come cyI cyJ cyZ qC q_states q_lastMet zcSize cMeet cChg cSeed zstates) → va_S A s.heap H locs → lv_has ls 4 [] → W p l e rm_X2_come s m args below meth c H locs 0 0 (MQ below (Qzv dC dI cyI cyJ cyZ A (w_X2_come cyI cyJ cyZ qC q_states q_lastMet cSize9 cMeet cChg cSeed states9)) args s 0 0 A) (F0 m 42 ls [])) (H : Heap) (locs : List Loc) (ls : Array Slot) (hP : va_P (dC, dI) vwCl (w_X2_come cyI cyJ cyZ qC q_states q_lastMet cSize cMeet cChg cSeed states) H) (hD : va_D A (w_X2_come cyI cyJ cyZ qC q_states q_lastMet cSize cMeet cChg cSeed states)) (hS : va_S A s.heap H locs) (hl : lv_has ls 4 [(0, .ref qC), (1, .int x1), (2, .int x2), (3, .int x3)]) : W p l e rm_X2_come s m args below meth c H locs 0 0 (MQ below (Qzv dC dI cyI cyJ cyZ A (w_X2_come cyI cyJ cyZ qC q_states q_lastMet cSize9 cMeet cChg cSeed states9)) args s 0 0 A) (F0 m 2 ls []) := by
  have C1 := C0
  obtain ⟨hx, hb, hr, hlocks, hml, hown, hts, hA, hK⟩ := C1
  unfold f_X2_come_b2 at hf
  refine lv_iload_n hx hb dX2_come_2 rfl (lv_at hl 3 rfl) ?_
  refine lv_iload_n hx hb dX2_come_3 rfl (lv_at hl 2 rfl) ?_
  refine lv_icmp_ge (tgt := 42) hx hb dX2_come_4 (by decide) (fun c_1 => ?_) (fun c_1 => ?_)
  · replace hf := it_t hf c_1
    exact Ke _ _ (Option.some.inj hf).symm H locs ls hP hD hS (lv_sub hl [] rfl)
  · replace hf := it_f hf c_1
    refine lv_aload_n hx hb dX2_come_7 rfl (lv_at hl 0 rfl) ?_
    refine va_get (D := (dC, dI)) (ci := 1) (v := .int cSize) (C := RX2) (T := TX2) (N := 6) hx hb hts hn_X2_come_X2 hown hK hP 0 rfl rfl 2 (by decide) (hts (.fieldLink RX2 28 "MetAgents$Crowd" "size" "I") (List.mem_of_getElem? (i := 1) rfl)) (fun _ h9 => h9) rfl dX2_come_8 ?_
    refine lv_bipush (v := 6) hx hb dX2_come_11 (by decide) ?_
    refine lv_icmp_ge (tgt := 42) hx hb dX2_come_13 (by decide) (fun c_2 => ?_) (fun c_2 => ?_)
    · replace hf := it_t hf c_2
      exact Ke _ _ (Option.some.inj hf).symm H locs ls hP hD hS (lv_sub hl [] rfl)
    · replace hf := it_f hf c_2
      refine lv_aload_n hx hb dX2_come_16 rfl (lv_at hl 0 rfl) ?_
      refine va_get (D := (dC, dI)) (ci := 1) (v := .ref q_states) (C := RX2) (T := TX2) (N := 6) hx hb hts hn_X2_come_X2 hown hK hP 0 rfl rfl 0 (by decide) (hts (.fieldLink RX2 9 "MetAgents$Crowd" "states" "[I") (List.mem_of_getElem? (i := 2) rfl)) (fun _ h9 => h9) rfl dX2_come_17 ?_
      refine lv_aload_n hx hb dX2_come_20 rfl (lv_at hl 0 rfl) ?_
      refine va_get (D := (dC, dI)) (ci := 1) (v := .int cSize) (C := RX2) (T := TX2) (N := 6) hx hb hts hn_X2_come_X2 hown hK hP 0 rfl rfl 2 (by decide) (hts (.fieldLink RX2 28 "MetAgents$Crowd" "size" "I") (List.mem_of_getElem? (i := 1) rfl)) (fun _ h9 => h9) rfl dX2_come_21 ?_
      refine lv_iload_n hx hb dX2_come_24 rfl (lv_at hl 1 rfl) ?_
      obtain ⟨h_3, hf⟩ := gd_el hf
      obtain ⟨states_4, e_4, hf⟩ := nm_el hf
      refine ast_i (w2 := (w_X2_come cyI cyJ cyZ qC q_states q_lastMet cSize cMeet cChg cSeed states_4)) hx hb hK hP hD hS 1 0 rfl rfl (inb_in h_3) e_4 rfl dX2_come_25 (fun H locs hP hD hS => ?_)
      refine lv_aload_n hx hb dX2_come_26 rfl (lv_at hl 0 rfl) ?_
      refine lv_dup hx hb dX2_come_27 rfl ?_
      refine va_get (D := (dC, dI)) (ci := 1) (v := .int cSize) (C := RX2) (T := TX2) (N := 6) hx hb hts hn_X2_come_X2 hown hK hP 0 rfl rfl 2 (by decide) (hts (.fieldLink RX2 28 "MetAgents$Crowd" "size" "I") (List.mem_of_getElem? (i := 1) rfl)) (fun _ h9 => h9) rfl dX2_come_28 ?_
      refine lv_iconst (v := 1) hx hb dX2_come_31 (by decide) ?_
      refine lv_iadd hx hb dX2_come_32 ?_
      obtain ⟨cSize_5, e_5, hf⟩ := nm_el hf
      refine top_i e_5 ?_
      refine va_put (D := (dC, dI)) (ci := 1) (v := .int cSize_5) (ty := .int) (C := RX2) (T := TX2) (N := 6) hx hb hts hn_X2_come_X2 tyX2 tyX2_ok nmX2 hown hK hP hD hS 0 rfl rfl 2 (by decide) (hts (.fieldLink RX2 28 "MetAgents$Crowd" "size" "I") (List.mem_of_getElem? (i := 1) rfl)) (fun _ h9 => h9) rfl (by decide +kernel) rfl rfl (Nat.le_of_ble_eq_true rfl) dX2_come_33 (fun H locs (hP : va_P (dC, dI) vwCl (w_X2_come cyI cyJ cyZ qC q_states q_lastMet cSize_5 cMeet cChg cSeed states_4) H) (hD : va_D A (w_X2_come cyI cyJ cyZ qC q_states q_lastMet cSize_5 cMeet cChg cSeed states_4)) hS => ?_)
      obtain ⟨x3_6, e_6, hf⟩ := nm_el hf
      refine lv_iinc (v := x3_6) (lv' := [(3, .int x3_6), (0, .ref qC), (1, .int x1), (2, .int x2)]) hx hb dX2_come_36 hl (k := 3) rfl (by rw [e_6]; rfl) (by decide) rfl (fun ls hl => ?_)
      refine lv_goto (tgt := 2) hx hb dX2_come_39 (by decide) ?_
      exact Kh _ _ _ (Option.some.inj hf).symm H locs ls hP hD hS (lv_sub hl [1, 2, 3, 0] rfl)
set_option maxHeartbeats 4000000 in
set_option maxRecDepth 100000 in
theorem l_X2_come_b2 (C0 : Cx p s m args meth c cX2_come none 4 RX2 wsX2_come A dC dI cyI cyJ cyZ) {qC q_states q_lastMet : Nat} (hXs : X0 A s) {N : Nat} {x1 : Int32} {x2 : Int32} {cMeet : Int32} {cChg : Int32} {cSeed : Int32} {cSize9 : Int32} {states9 : Nat → Int32} {z : Int32 × (Nat → Int32)} (Ke : ∀ (zcSize : Int32) (zstates : Nat → Int32), z = (zcSize, zstates) → ∀ (H : Heap) (locs : List Loc) (ls : Array Slot), va_P (dC, dI) vwCl (w_X2_come cyI cyJ cyZ qC q_states q_lastMet zcSize cMeet cChg cSeed zstates) H → va_D A (w_X2_come cyI cyJ cyZ qC q_states q_lastMet zcSize cMeet cChg cSeed zstates) → va_S A s.heap H locs → lv_has ls 4 [] → W p l e rm_X2_come s m args below meth c H locs 0 0 (MQ below (Qzv dC dI cyI cyJ cyZ A (w_X2_come cyI cyJ cyZ qC q_states q_lastMet cSize9 cMeet cChg cSeed states9)) args s 0 0 A) (F0 m 42 ls [])) : ∀ (n9 : Nat) (x3 : Int32) (cSize : Int32) (states : Nat → Int32), loopN (fun (w9 : Int32 × Int32 × (Nat → Int32)) => f_X2_come_b2 N x1 x2 w9.1 w9.2.1 w9.2.2) n9 (x3, cSize, states) = some z → ∀ (H : Heap) (locs : List Loc) (ls : Array Slot), va_P (dC, dI) vwCl (w_X2_come cyI cyJ cyZ qC q_states q_lastMet cSize cMeet cChg cSeed states) H → va_D A (w_X2_come cyI cyJ cyZ qC q_states q_lastMet cSize cMeet cChg cSeed states) → va_S A s.heap H locs → lv_has ls 4 [(0, .ref qC), (1, .int x1), (2, .int x2), (3, .int x3)] → W p l e rm_X2_come s m args below meth c H locs 0 0 (MQ below (Qzv dC dI cyI cyJ cyZ A (w_X2_come cyI cyJ cyZ qC q_states q_lastMet cSize9 cMeet cChg cSeed states9)) args s 0 0 A) (F0 m 2 ls []) := by
  intro n9
  induction n9 with
  | zero => intro _ _ _ h; cases h
  | succ n9 ih =>
    intro x3 cSize states h H locs ls hP hD hS hl
    rcases loopN_el h with ⟨y9, h1, h2⟩ | h1
    · exact t_X2_come_b2 C0 hXs  h1 (fun zx3 zcSize zstates q9 H locs ls hP hD hS hl => ih zx3 zcSize zstates (by cases q9; exact h2) H locs ls hP hD hS hl) (fun _ _ q9 => by cases q9) H locs ls hP hD hS hl
    · exact t_X2_come_b2 C0 hXs  h1 (fun _ _ _ q9 => by cases q9) (fun ecSize estates q9 => Ke ecSize estates (by cases q9; rfl)) H locs ls hP hD hS hl
def f_X2_come (N : Nat) (x1 : Int32) (x2 : Int32) (cSize : Int32) (states : Nat → Int32) : Option (Int32 × (Nat → Int32)) :=
  bd2 (loopN (fun (w9 : Int32 × Int32 × (Nat → Int32)) => f_X2_come_b2 N x1 x2 w9.1 w9.2.1 w9.2.2) N (0, cSize, states)) (fun cSize_7 states_8 => some (cSize_7, states_8))
set_option maxHeartbeats 4000000 in
set_option maxRecDepth 100000 in
theorem t_X2_come (C0 : Cx p s m args meth c cX2_come none 4 RX2 wsX2_come A dC dI cyI cyJ cyZ) {qC q_states q_lastMet : Nat} (hXs : X0 A s) {N : Nat} {x1 : Int32} {x2 : Int32} {cSize : Int32} {states : Nat → Int32} {cMeet : Int32} {cChg : Int32} {cSeed : Int32} {cSize9 : Int32} {states9 : Nat → Int32} (hf : f_X2_come N x1 x2 cSize states = some (cSize9, states9)) (H : Heap) (locs : List Loc) (ls : Array Slot) (hP : va_P (dC, dI) vwCl (w_X2_come cyI cyJ cyZ qC q_states q_lastMet cSize cMeet cChg cSeed states) H) (hD : va_D A (w_X2_come cyI cyJ cyZ qC q_states q_lastMet cSize cMeet cChg cSeed states)) (hS : va_S A s.heap H locs) (hl : lv_has ls 4 [(0, .ref qC), (1, .int x1), (2, .int x2)]) : W p l e rm_X2_come s m args below meth c H locs 0 0 (MQ below (Qzv dC dI cyI cyJ cyZ A (w_X2_come cyI cyJ cyZ qC q_states q_lastMet cSize9 cMeet cChg cSeed states9)) args s 0 0 A) (F0 m 0 ls []) := by
  have C1 := C0
  obtain ⟨hx, hb, hr, hlocks, hml, hown, hts, hA, hK⟩ := C1
  unfold f_X2_come at hf
  refine lv_iconst (v := 0) hx hb dX2_come_0 (by decide) ?_
  refine lv_istore_n (lv' := [(3, .int 0), (0, .ref qC), (1, .int x1), (2, .int x2)]) hx hb dX2_come_1 rfl hl (by decide) rfl (fun ls hl => ?_)
  obtain ⟨cSize_7, states_8, hlp, hf⟩ := bd2_el hf
  refine l_X2_come_b2 C0 hXs (fun cSize_7 states_8 q9 H locs ls hP hD hS hl => ?_) N _ _ _ hlp H locs ls hP hD hS (lv_sub hl [1, 2, 3, 0] rfl)
  cases q9
  cases hf
  exact W.vret hx hb hr (fun t ht hW => ⟨⟨(), rfl, trivial, by rw [ht]; exact hP, va_K.moved hW.alike hK, hD⟩, hS.F ht⟩) hS.2.2 dX2_come_42
set_option maxHeartbeats 4000000 in
set_option maxRecDepth 100000 in
theorem c_X2_come (l : Launch) (dC : Nat → ClassId) (dI : Nat → Nat → Nat) (cyI cyJ cyZ : ClassId) (qC q_states q_lastMet : Nat) (sz N : Nat) (x1 : Int32) (x2 : Int32) (cSize : Int32) (states : Nat → Int32) (cMeet : Int32) (cChg : Int32) (cSeed : Int32) (cSize9 : Int32) (states9 : Nat → Int32) (hf : f_X2_come N x1 x2 cSize states = some (cSize9, states9)) : Met l yX2_come wsX2_come rm_X2_come (Pz dC dI cyI cyJ cyZ [.ref qC, .int x1, .int x2] sz (w_X2_come cyI cyJ cyZ qC q_states q_lastMet cSize cMeet cChg cSeed states) X0) (Qzv dC dI cyI cyJ cyZ (va_A (w_X2_come cyI cyJ cyZ qC q_states q_lastMet cSize cMeet cChg cSeed states) sz) (w_X2_come cyI cyJ cyZ qC q_states q_lastMet cSize9 cMeet cChg cSeed states9)) 0 0 (va_A (w_X2_come cyI cyJ cyZ qC q_states q_lastMet cSize cMeet cChg cSeed states) sz) := by
  refine Met_of (cc := cX2_come) (maxL := 4) (ret := none) (by decide) rfl (Nat.le_of_ble_eq_true rfl) ?_
  intro p e s m args below meth c ls C0 hsz hXs hP hD hS hl
  exact t_X2_come C0 hXs hf s.heap [] ls hP hD hS hl
abbrev w_X2_has (cyI cyJ cyZ : ClassId) (qC q_states q_lastMet : Nat) (cSize : Int32) (cMeet : Int32) (cChg : Int32) (cSeed : Int32) : va_W := [(qC, .inr (1, [.ref q_states, .ref q_lastMet, .int cSize, .int cMeet, .int cChg, .int cSeed]))]
abbrev rm_X2_has : Room := { frames := 0, cells := 0, slots := 0, locals := 0 }
theorem hn_X2_has_X2 : ∀ w ∈ wsX20, w ∈ wsX2_has := fun _ h => List.mem_cons_of_mem _ (List.mem_append_right _ h)
def f_X2_has (N : Nat) (x1 : Int32) (cSize : Int32) : Option (Int32) :=
  (if x1 < 0 then some 0 else (if cSize ≤ x1 then some 0 else some 1))
set_option maxHeartbeats 4000000 in
set_option maxRecDepth 100000 in
theorem t_X2_has (C0 : Cx p s m args meth c cX2_has (some .boolean) 2 RX2 wsX2_has A dC dI cyI cyJ cyZ) {qC q_states q_lastMet : Nat} (hXs : X0 A s) {N : Nat} {x1 : Int32} {cSize : Int32} {cMeet : Int32} {cChg : Int32} {cSeed : Int32} {r9 : Int32} (hf : f_X2_has N x1 cSize = some r9) (H : Heap) (locs : List Loc) (ls : Array Slot) (hP : va_P (dC, dI) vwCl (w_X2_has cyI cyJ cyZ qC q_states q_lastMet cSize cMeet cChg cSeed) H) (hD : va_D A (w_X2_has cyI cyJ cyZ qC q_states q_lastMet cSize cMeet cChg cSeed)) (hS : va_S A s.heap H locs) (hl : lv_has ls 2 [(0, .ref qC), (1, .int x1)]) : W p l e rm_X2_has s m args below meth c H locs 0 0 (MQ below (Qzi dC dI cyI cyJ cyZ A (w_X2_has cyI cyJ cyZ qC q_states q_lastMet cSize cMeet cChg cSeed) r9) args s 0 0 A) (F0 m 0 ls []) := by
  have C1 := C0
  obtain ⟨hx, hb, hr, hlocks, hml, hown, hts, hA, hK⟩ := C1
  unfold f_X2_has at hf
  refine lv_iload_n hx hb dX2_has_0 rfl (lv_at hl 1 rfl) ?_
  refine lv_if_lt (tgt := 16) hx hb dX2_has_1 (by decide) (fun c_1 => ?_) (fun c_1 => ?_)
  · replace hf := it_t hf c_1
    refine lv_iconst (v := 0) hx hb dX2_has_16 (by decide) ?_
    cases hf
    exact W.zret hx hb hr rfl (fun t ht hW => ⟨⟨_, (), rfl, rfl, by rw [ht]; exact hP, va_K.moved hW.alike hK, hD⟩, hS.F ht⟩) hS.2.2 dX2_has_17
  · replace hf := it_f hf c_1
    refine lv_iload_n hx hb dX2_has_4 rfl (lv_at hl 1 rfl) ?_
    refine lv_aload_n hx hb dX2_has_5 rfl (lv_at hl 0 rfl) ?_
    refine va_get (D := (dC, dI)) (ci := 1) (v := .int cSize) (C := RX2) (T := TX2) (N := 6) hx hb hts hn_X2_has_X2 hown hK hP 0 rfl rfl 2 (by decide) (hts (.fieldLink RX2 28 "MetAgents$Crowd" "size" "I") (List.mem_of_getElem? (i := 1) rfl)) (fun _ h9 => h9) rfl dX2_has_6 ?_
    refine lv_icmp_ge (tgt := 16) hx hb dX2_has_9 (by decide) (fun c_2 => ?_) (fun c_2 => ?_)
    · replace hf := it_t hf c_2
      refine lv_iconst (v := 0) hx hb dX2_has_16 (by decide) ?_
      cases hf
      exact W.zret hx hb hr rfl (fun t ht hW => ⟨⟨_, (), rfl, rfl, by rw [ht]; exact hP, va_K.moved hW.alike hK, hD⟩, hS.F ht⟩) hS.2.2 dX2_has_17
    · replace hf := it_f hf c_2
      refine lv_iconst (v := 1) hx hb dX2_has_12 (by decide) ?_
      refine lv_goto (tgt := 17) hx hb dX2_has_13 (by decide) ?_
      cases hf
      exact W.zret hx hb hr rfl (fun t ht hW => ⟨⟨_, (), rfl, rfl, by rw [ht]; exact hP, va_K.moved hW.alike hK, hD⟩, hS.F ht⟩) hS.2.2 dX2_has_17
set_option maxHeartbeats 4000000 in
set_option maxRecDepth 100000 in
theorem c_X2_has (l : Launch) (dC : Nat → ClassId) (dI : Nat → Nat → Nat) (cyI cyJ cyZ : ClassId) (qC q_states q_lastMet : Nat) (sz N : Nat) (x1 : Int32) (cSize : Int32) (cMeet : Int32) (cChg : Int32) (cSeed : Int32) (r9 : Int32) (hf : f_X2_has N x1 cSize = some r9) : Met l yX2_has wsX2_has rm_X2_has (Pz dC dI cyI cyJ cyZ [.ref qC, .int x1] sz (w_X2_has cyI cyJ cyZ qC q_states q_lastMet cSize cMeet cChg cSeed) X0) (Qzi dC dI cyI cyJ cyZ (va_A (w_X2_has cyI cyJ cyZ qC q_states q_lastMet cSize cMeet cChg cSeed) sz) (w_X2_has cyI cyJ cyZ qC q_states q_lastMet cSize cMeet cChg cSeed) r9) 0 0 (va_A (w_X2_has cyI cyJ cyZ qC q_states q_lastMet cSize cMeet cChg cSeed) sz) := by
  refine Met_of (cc := cX2_has) (maxL := 2) (ret := (some .boolean)) (by decide) rfl (Nat.le_of_ble_eq_true rfl) ?_
  intro p e s m args below meth c ls C0 hsz hXs hP hD hS hl
  exact t_X2_has C0 hXs hf s.heap [] ls hP hD hS hl
abbrev w_X2_stateOf (cyI cyJ cyZ : ClassId) (qC q_states q_lastMet : Nat) (cSize : Int32) (cMeet : Int32) (cChg : Int32) (cSeed : Int32) (states : Nat → Int32) : va_W := [(qC, .inr (1, [.ref q_states, .ref q_lastMet, .int cSize, .int cMeet, .int cChg, .int cSeed])), (q_states, .inl (cyI, 6, .inl states))]
abbrev rm_X2_stateOf : Room := { frames := 0, cells := 0, slots := 0, locals := 0 }
theorem hn_X2_stateOf_X2 : ∀ w ∈ wsX20, w ∈ wsX2_stateOf := fun _ h => List.mem_cons_of_mem _ (List.mem_append_right _ h)
def f_X2_stateOf (N : Nat) (x1 : Int32) (states : Nat → Int32) : Option (Int32) :=
  gd (inb x1 6) (some (states x1.toNatClampNeg))
set_option maxHeartbeats 4000000 in
set_option maxRecDepth 100000 in
theorem t_X2_stateOf (C0 : Cx p s m args meth c cX2_stateOf (some .int) 2 RX2 wsX2_stateOf A dC dI cyI cyJ cyZ) {qC q_states q_lastMet : Nat} (hXs : X0 A s) {N : Nat} {x1 : Int32} {states : Nat → Int32} {cSize : Int32} {cMeet : Int32} {cChg : Int32} {cSeed : Int32} {r9 : Int32} (hf : f_X2_stateOf N x1 states = some r9) (H : Heap) (locs : List Loc) (ls : Array Slot) (hP : va_P (dC, dI) vwCl (w_X2_stateOf cyI cyJ cyZ qC q_states q_lastMet cSize cMeet cChg cSeed states) H) (hD : va_D A (w_X2_stateOf cyI cyJ cyZ qC q_states q_lastMet cSize cMeet cChg cSeed states)) (hS : va_S A s.heap H locs) (hl : lv_has ls 2 [(0, .ref qC), (1, .int x1)]) : W p l e rm_X2_stateOf s m args below meth c H locs 0 0 (MQ below (Qzi dC dI cyI cyJ cyZ A (w_X2_stateOf cyI cyJ cyZ qC q_states q_lastMet cSize cMeet cChg cSeed states) r9) args s 0 0 A) (F0 m 0 ls []) := by
  have C1 := C0
  obtain ⟨hx, hb, hr, hlocks, hml, hown, hts, hA, hK⟩ := C1
  unfold f_X2_stateOf at hf
  refine lv_aload_n hx hb dX2_stateOf_0 rfl (lv_at hl 0 rfl) ?_
  refine va_get (D := (dC, dI)) (ci := 1) (v := .ref q_states) (C := RX2) (T := TX2) (N := 6) hx hb hts hn_X2_stateOf_X2 hown hK hP 0 rfl rfl 0 (by decide) (hts (.fieldLink RX2 9 "MetAgents$Crowd" "states" "[I") (List.mem_of_getElem? (i := 1) rfl)) (fun _ h9 => h9) rfl dX2_stateOf_1 ?_
  refine lv_iload_n hx hb dX2_stateOf_4 rfl (lv_at hl 1 rfl) ?_
  obtain ⟨h_1, hf⟩ := gd_el hf
  refine va_iald hx hb hK hP 1 0 rfl rfl (inb_in h_1) dX2_stateOf_5 ?_
  cases hf
  exact W.iret hx hb hr (fun t ht hW => ⟨⟨_, (), rfl, rfl, by rw [ht]; exact hP, va_K.moved hW.alike hK, hD⟩, hS.F ht⟩) hS.2.2 dX2_stateOf_6
set_option maxHeartbeats 4000000 in
set_option maxRecDepth 100000 in
theorem c_X2_stateOf (l : Launch) (dC : Nat → ClassId) (dI : Nat → Nat → Nat) (cyI cyJ cyZ : ClassId) (qC q_states q_lastMet : Nat) (sz N : Nat) (x1 : Int32) (states : Nat → Int32) (cSize : Int32) (cMeet : Int32) (cChg : Int32) (cSeed : Int32) (r9 : Int32) (hf : f_X2_stateOf N x1 states = some r9) : Met l yX2_stateOf wsX2_stateOf rm_X2_stateOf (Pz dC dI cyI cyJ cyZ [.ref qC, .int x1] sz (w_X2_stateOf cyI cyJ cyZ qC q_states q_lastMet cSize cMeet cChg cSeed states) X0) (Qzi dC dI cyI cyJ cyZ (va_A (w_X2_stateOf cyI cyJ cyZ qC q_states q_lastMet cSize cMeet cChg cSeed states) sz) (w_X2_stateOf cyI cyJ cyZ qC q_states q_lastMet cSize cMeet cChg cSeed states) r9) 0 0 (va_A (w_X2_stateOf cyI cyJ cyZ qC q_states q_lastMet cSize cMeet cChg cSeed states) sz) := by
  refine Met_of (cc := cX2_stateOf) (maxL := 2) (ret := (some .int)) (by decide) rfl (Nat.le_of_ble_eq_true rfl) ?_
  intro p e s m args below meth c ls C0 hsz hXs hP hD hS hl
  exact t_X2_stateOf C0 hXs hf s.heap [] ls hP hD hS hl
abbrev w_X2_configuration (cyI cyJ cyZ : ClassId) (qC q_states q_lastMet : Nat) (cSize : Int32) (cMeet : Int32) (cChg : Int32) (cSeed : Int32) (states : Nat → Int32) : va_W := [(qC, .inr (1, [.ref q_states, .ref q_lastMet, .int cSize, .int cMeet, .int cChg, .int cSeed])), (q_states, .inl (cyI, 6, .inl states))]
abbrev rm_X2_configuration : Room := { frames := 1, cells := 0, slots := 0, locals := 20 }
theorem hn_X2_configuration_X2 : ∀ w ∈ wsX20, w ∈ wsX2_configuration := fun _ h => List.mem_cons_of_mem _ (List.mem_append_right _ h)
def f_X2_configuration_b4 (N : Nat) (cSize : Int32) (states : Nat → Int32) (x1 : Int32) (x2 : Int32) : Option ((Int32 × Int32) ⊕ (Int32)) :=
  (if cSize ≤ x2 then some (Sum.inr x1) else gd (inb x2 6) (bd1 (f_X1_one N (states x2.toNatClampNeg)) (fun r_3 => nm (x1 + r_3) (fun x1_4 => nm (x2 + 1) (fun x2_5 => some (Sum.inl (x1_4, x2_5)))))))
set_option maxHeartbeats 4000000 in
set_option maxRecDepth 100000 in
theorem t_X2_configuration_b4 (C0 : Cx p s m args meth c cX2_configuration (some .int) 3 RX2 wsX2_configuration A dC dI cyI cyJ cyZ) {qC q_states q_lastMet : Nat} (hXs : X0 A s) {N : Nat} {cSize : Int32} {states : Nat → Int32} {x1 : Int32} {x2 : Int32} {cMeet : Int32} {cChg : Int32} {cSeed : Int32} {r9 : Int32} {r : (Int32 × Int32) ⊕ (Int32)} (hf : f_X2_configuration_b4 N cSize states x1 x2 = some r) (Kh : ∀ (zx1 : Int32) (zx2 : Int32), r = Sum.inl (zx1, zx2) → ∀ (H : Heap) (locs : List Loc) (ls : Array Slot), va_P (dC, dI) vwCl (w_X2_configuration cyI cyJ cyZ qC q_states q_lastMet cSize cMeet cChg cSeed states) H → va_D A (w_X2_configuration cyI cyJ cyZ qC q_states q_lastMet cSize cMeet cChg cSeed states) → va_S A s.heap H locs → lv_has ls 3 [(0, .ref qC), (1, .int zx1), (2, .int zx2)] → W p l e rm_X2_configuration s m args below meth c H locs 0 0 (MQ below (Qzi dC dI cyI cyJ cyZ A (w_X2_configuration cyI cyJ cyZ qC q_states q_lastMet cSize cMeet cChg cSeed states) r9) args s 0 0 A) (F0 m 4 ls [])) (Ke : ∀ (zx1 : Int32), r = Sum.inr zx1 → ∀ (H : Heap) (locs : List Loc) (ls : Array Slot), va_P (dC, dI) vwCl (w_X2_configuration cyI cyJ cyZ qC q_states q_lastMet cSize cMeet cChg cSeed states) H → va_D A (w_X2_configuration cyI cyJ cyZ qC q_states q_lastMet cSize cMeet cChg cSeed states) → va_S A s.heap H locs → lv_has ls 3 [(1, .int zx1)] → W p l e rm_X2_configuration s m args below meth c H locs 0 0 (MQ below (Qzi dC dI cyI cyJ cyZ A (w_X2_configuration cyI cyJ cyZ qC q_states q_lastMet cSize cMeet cChg cSeed states) r9) args s 0 0 A) (F0 m 30 ls [])) (H : Heap) (locs : List Loc) (ls : Array Slot) (hP : va_P (dC, dI) vwCl (w_X2_configuration cyI cyJ cyZ qC q_states q_lastMet cSize cMeet cChg cSeed states) H) (hD : va_D A (w_X2_configuration cyI cyJ cyZ qC q_states q_lastMet cSize cMeet cChg cSeed states)) (hS : va_S A s.heap H locs) (hl : lv_has ls 3 [(0, .ref qC), (1, .int x1), (2, .int x2)]) : W p l e rm_X2_configuration s m args below meth c H locs 0 0 (MQ below (Qzi dC dI cyI cyJ cyZ A (w_X2_configuration cyI cyJ cyZ qC q_states q_lastMet cSize cMeet cChg cSeed states) r9) args s 0 0 A) (F0 m 4 ls []) := by
  have C1 := C0
  obtain ⟨hx, hb, hr, hlocks, hml, hown, hts, hA, hK⟩ := C1
  unfold f_X2_configuration_b4 at hf
  refine lv_iload_n hx hb dX2_configuration_4 rfl (lv_at hl 2 rfl) ?_
  refine lv_aload_n hx hb dX2_configuration_5 rfl (lv_at hl 0 rfl) ?_
  refine va_get (D := (dC, dI)) (ci := 1) (v := .int cSize) (C := RX2) (T := TX2) (N := 6) hx hb hts hn_X2_configuration_X2 hown hK hP 0 rfl rfl 2 (by decide) (hts (.fieldLink RX2 28 "MetAgents$Crowd" "size" "I") (List.mem_of_getElem? (i := 1) rfl)) (fun _ h9 => h9) rfl dX2_configuration_6 ?_
  refine lv_icmp_ge (tgt := 30) hx hb dX2_configuration_9 (by decide) (fun c_1 => ?_) (fun c_1 => ?_)
  · replace hf := it_t hf c_1
    exact Ke _ (Option.some.inj hf).symm H locs ls hP hD hS (lv_sub hl [1] rfl)
  · replace hf := it_f hf c_1
    refine lv_iload_n hx hb dX2_configuration_12 rfl (lv_at hl 1 rfl) ?_
    refine lv_aload_n hx hb dX2_configuration_13 rfl (lv_at hl 0 rfl) ?_
    refine va_get (D := (dC, dI)) (ci := 1) (v := .ref q_states) (C := RX2) (T := TX2) (N := 6) hx hb hts hn_X2_configuration_X2 hown hK hP 0 rfl rfl 0 (by decide) (hts (.fieldLink RX2 9 "MetAgents$Crowd" "states" "[I") (List.mem_of_getElem? (i := 2) rfl)) (fun _ h9 => h9) rfl dX2_configuration_14 ?_
    refine lv_iload_n hx hb dX2_configuration_17 rfl (lv_at hl 2 rfl) ?_
    obtain ⟨h_2, hf⟩ := gd_el hf
    refine va_iald hx hb hK hP 1 0 rfl rfl (inb_in h_2) dX2_configuration_18 ?_
    obtain ⟨r_3, hc, hf⟩ := bd1_el hf
    refine cl_i (wc := (w_X1_one cyI cyJ cyZ)) (wr := [(qC, .inr (1, [.ref q_states, .ref q_lastMet, .int cSize, .int cMeet, .int cChg, .int cSeed])), (q_states, .inl (cyI, 6, .inl states))]) (w1 := (w_X1_one cyI cyJ cyZ)) (w2 := (w_X2_configuration cyI cyJ cyZ qC q_states q_lastMet cSize cMeet cChg cSeed states)) C0 (rn_S (As := [.int (states x2.toNatClampNeg)]) (rest := [.int x1]) (wc := (w_X1_one cyI cyJ cyZ)) (X := X0) C0 (c_X1_one l dC dI cyI cyJ cyZ H.size N (states x2.toNatClampNeg) r_3 hc) (va_cwS 1 hts gX2_configuration_X1_one rfl rfl rfl (by decide +kernel) ⟨Nat.le_of_ble_eq_true rfl, Nat.le_of_ble_eq_true rfl⟩) X0_car trivial hP hD hS [] rfl rfl rfl hl.1 rfl (Nat.le_of_ble_eq_true rfl) dX2_configuration_19 ⟨Nat.le_of_ble_eq_true rfl, Nat.le_of_ble_eq_true rfl⟩) hP hD hS [] [0, 1] [0, 1] rfl rfl rfl (by decide) rfl rfl (fun H locs hP hD hS => ?_)
    refine lv_iadd hx hb dX2_configuration_22 ?_
    obtain ⟨x1_4, e_4, hf⟩ := nm_el hf
    refine top_i e_4 ?_
    refine lv_istore_n (lv' := [(1, .int x1_4), (0, .ref qC), (2, .int x2)]) hx hb dX2_configuration_23 rfl hl (by decide) rfl (fun ls hl => ?_)
    obtain ⟨x2_5, e_5, hf⟩ := nm_el hf
    refine lv_iinc (v := x2_5) (lv' := [(2, .int x2_5), (1, .int x1_4), (0, .ref qC)]) hx hb dX2_configuration_24 hl (k := 2) rfl (by rw [e_5]; rfl) (by decide) rfl (fun ls hl => ?_)
    refine lv_goto (tgt := 4) hx hb dX2_configuration_27 (by decide) ?_
    exact Kh _ _ (Option.some.inj hf).symm H locs ls hP hD hS (lv_sub hl [2, 1, 0] rfl)
set_option maxHeartbeats 4000000 in
set_option maxRecDepth 100000 in
theorem l_X2_configuration_b4 (C0 : Cx p s m args meth c cX2_configuration (some .int) 3 RX2 wsX2_configuration A dC dI cyI cyJ cyZ) {qC q_states q_lastMet : Nat} (hXs : X0 A s) {N : Nat} {cSize : Int32} {states : Nat → Int32} {cMeet : Int32} {cChg : Int32} {cSeed : Int32} {r9 : Int32} {z : Int32} (Ke : ∀ (zx1 : Int32), z = zx1 → ∀ (H : Heap) (locs : List Loc) (ls : Array Slot), va_P (dC, dI) vwCl (w_X2_configuration cyI cyJ cyZ qC q_states q_lastMet cSize cMeet cChg cSeed states) H → va_D A (w_X2_configuration cyI cyJ cyZ qC q_states q_lastMet cSize cMeet cChg cSeed states) → va_S A s.heap H locs → lv_has ls 3 [(1, .int zx1)] → W p l e rm_X2_configuration s m args below meth c H locs 0 0 (MQ below (Qzi dC dI cyI cyJ cyZ A (w_X2_configuration cyI cyJ cyZ qC q_states q_lastMet cSize cMeet cChg cSeed states) r9) args s 0 0 A) (F0 m 30 ls [])) : ∀ (n9 : Nat) (x1 : Int32) (x2 : Int32), loopN (fun (w9 : Int32 × Int32) => f_X2_configuration_b4 N cSize states w9.1 w9.2) n9 (x1, x2) = some z → ∀ (H : Heap) (locs : List Loc) (ls : Array Slot), va_P (dC, dI) vwCl (w_X2_configuration cyI cyJ cyZ qC q_states q_lastMet cSize cMeet cChg cSeed states) H → va_D A (w_X2_configuration cyI cyJ cyZ qC q_states q_lastMet cSize cMeet cChg cSeed states) → va_S A s.heap H locs → lv_has ls 3 [(0, .ref qC), (1, .int x1), (2, .int x2)] → W p l e rm_X2_configuration s m args below meth c H locs 0 0 (MQ below (Qzi dC dI cyI cyJ cyZ A (w_X2_configuration cyI cyJ cyZ qC q_states q_lastMet cSize cMeet cChg cSeed states) r9) args s 0 0 A) (F0 m 4 ls []) := by
  intro n9
  induction n9 with
  | zero => intro _ _ h; cases h
  | succ n9 ih =>
    intro x1 x2 h H locs ls hP hD hS hl
    rcases loopN_el h with ⟨y9, h1, h2⟩ | h1
    · exact t_X2_configuration_b4 C0 hXs  h1 (fun zx1 zx2 q9 H locs ls hP hD hS hl => ih zx1 zx2 (by cases q9; exact h2) H locs ls hP hD hS hl) (fun _ q9 => by cases q9) H locs ls hP hD hS hl
    · exact t_X2_configuration_b4 C0 hXs  h1 (fun _ _ q9 => by cases q9) (fun ex1 q9 => Ke ex1 (by cases q9; rfl)) H locs ls hP hD hS hl
def f_X2_configuration (N : Nat) (cSize : Int32) (states : Nat → Int32) : Option (Int32) :=
  bd1 (loopN (fun (w9 : Int32 × Int32) => f_X2_configuration_b4 N cSize states w9.1 w9.2) N (0, 0)) (fun x1_6 => some x1_6)
set_option maxHeartbeats 4000000 in
set_option maxRecDepth 100000 in
theorem t_X2_configuration (C0 : Cx p s m args meth c cX2_configuration (some .int) 3 RX2 wsX2_configuration A dC dI cyI cyJ cyZ) {qC q_states q_lastMet : Nat} (hXs : X0 A s) {N : Nat} {cSize : Int32} {states : Nat → Int32} {cMeet : Int32} {cChg : Int32} {cSeed : Int32} {r9 : Int32} (hf : f_X2_configuration N cSize states = some r9) (H : Heap) (locs : List Loc) (ls : Array Slot) (hP : va_P (dC, dI) vwCl (w_X2_configuration cyI cyJ cyZ qC q_states q_lastMet cSize cMeet cChg cSeed states) H) (hD : va_D A (w_X2_configuration cyI cyJ cyZ qC q_states q_lastMet cSize cMeet cChg cSeed states)) (hS : va_S A s.heap H locs) (hl : lv_has ls 3 [(0, .ref qC)]) : W p l e rm_X2_configuration s m args below meth c H locs 0 0 (MQ below (Qzi dC dI cyI cyJ cyZ A (w_X2_configuration cyI cyJ cyZ qC q_states q_lastMet cSize cMeet cChg cSeed states) r9) args s 0 0 A) (F0 m 0 ls []) := by
  have C1 := C0
  obtain ⟨hx, hb, hr, hlocks, hml, hown, hts, hA, hK⟩ := C1
  unfold f_X2_configuration at hf
  refine lv_iconst (v := 0) hx hb dX2_configuration_0 (by decide) ?_
  refine lv_istore_n (lv' := [(1, .int 0), (0, .ref qC)]) hx hb dX2_configuration_1 rfl hl (by decide) rfl (fun ls hl => ?_)
  refine lv_iconst (v := 0) hx hb dX2_configuration_2 (by decide) ?_
  refine lv_istore_n (lv' := [(2, .int 0), (1, .int 0), (0, .ref qC)]) hx hb dX2_configuration_3 rfl hl (by decide) rfl (fun ls hl => ?_)
  obtain ⟨x1_6, hlp, hf⟩ := bd1_el hf
  refine l_X2_configuration_b4 C0 hXs (fun x1_6 q9 H locs ls hP hD hS hl => ?_) N _ _ hlp H locs ls hP hD hS (lv_sub hl [2, 1, 0] rfl)
  cases q9
  refine lv_iload_n hx hb dX2_configuration_30 rfl (lv_at hl 0 rfl) ?_
  cases hf
  exact W.iret hx hb hr (fun t ht hW => ⟨⟨_, (), rfl, rfl, by rw [ht]; exact hP, va_K.moved hW.alike hK, hD⟩, hS.F ht⟩) hS.2.2 dX2_configuration_31
set_option maxHeartbeats 4000000 in
set_option maxRecDepth 100000 in
theorem c_X2_configuration (l : Launch) (dC : Nat → ClassId) (dI : Nat → Nat → Nat) (cyI cyJ cyZ : ClassId) (qC q_states q_lastMet : Nat) (sz N : Nat) (cSize : Int32) (states : Nat → Int32) (cMeet : Int32) (cChg : Int32) (cSeed : Int32) (r9 : Int32) (hf : f_X2_configuration N cSize states = some r9) : Met l yX2_configuration wsX2_configuration rm_X2_configuration (Pz dC dI cyI cyJ cyZ [.ref qC] sz (w_X2_configuration cyI cyJ cyZ qC q_states q_lastMet cSize cMeet cChg cSeed states) X0) (Qzi dC dI cyI cyJ cyZ (va_A (w_X2_configuration cyI cyJ cyZ qC q_states q_lastMet cSize cMeet cChg cSeed states) sz) (w_X2_configuration cyI cyJ cyZ qC q_states q_lastMet cSize cMeet cChg cSeed states) r9) 0 0 (va_A (w_X2_configuration cyI cyJ cyZ qC q_states q_lastMet cSize cMeet cChg cSeed states) sz) := by
  refine Met_of (cc := cX2_configuration) (maxL := 3) (ret := (some .int)) (by decide) rfl (Nat.le_of_ble_eq_true rfl) ?_
  intro p e s m args below meth c ls C0 hsz hXs hP hD hS hl
  exact t_X2_configuration C0 hXs hf s.heap [] ls hP hD hS hl
abbrev w_X5_of (cyI cyJ cyZ : ClassId) : va_W := []
abbrev rm_X5_of : Room := { frames := 0, cells := 0, slots := 0, locals := 0 }
def f_X5_of (N : Nat) (x0 : Int32) (x1 : Int32) : Option (Int32) :=
  some ((x0 * 6) + x1)
set_option maxHeartbeats 4000000 in
set_option maxRecDepth 100000 in
theorem t_X5_of (C0 : Cx p s m args meth c cX5_of (some .int) 2 RX5 wsX5_of A dC dI cyI cyJ cyZ) (hXs : X0 A s) {N : Nat} {x0 : Int32} {x1 : Int32} {r9 : Int32} (hf : f_X5_of N x0 x1 = some r9) (H : Heap) (locs : List Loc) (ls : Array Slot) (hP : va_P (dC, dI) vwCl (w_X5_of cyI cyJ cyZ) H) (hD : va_D A (w_X5_of cyI cyJ cyZ)) (hS : va_S A s.heap H locs) (hl : lv_has ls 2 [(0, .int x0), (1, .int x1)]) : W p l e rm_X5_of s m args below meth c H locs 0 0 (MQ below (Qzi dC dI cyI cyJ cyZ A (w_X5_of cyI cyJ cyZ) r9) args s 0 0 A) (F0 m 0 ls []) := by
  have C1 := C0
  obtain ⟨hx, hb, hr, hlocks, hml, hown, hts, hA, hK⟩ := C1
  unfold f_X5_of at hf
  refine lv_iload_n hx hb dX5_of_0 rfl (lv_at hl 0 rfl) ?_
  refine lv_bipush (v := 6) hx hb dX5_of_1 (by decide) ?_
  refine lv_imul hx hb dX5_of_3 ?_
  refine lv_iload_n hx hb dX5_of_4 rfl (lv_at hl 1 rfl) ?_
  refine lv_iadd hx hb dX5_of_5 ?_
  cases hf
  exact W.iret hx hb hr (fun t ht hW => ⟨⟨_, (), rfl, rfl, by rw [ht]; exact hP, va_K.moved hW.alike hK, hD⟩, hS.F ht⟩) hS.2.2 dX5_of_6
set_option maxHeartbeats 4000000 in
set_option maxRecDepth 100000 in
theorem c_X5_of (l : Launch) (dC : Nat → ClassId) (dI : Nat → Nat → Nat) (cyI cyJ cyZ : ClassId) (sz N : Nat) (x0 : Int32) (x1 : Int32) (r9 : Int32) (hf : f_X5_of N x0 x1 = some r9) : Met l yX5_of wsX5_of rm_X5_of (Pz dC dI cyI cyJ cyZ [.int x0, .int x1] sz (w_X5_of cyI cyJ cyZ) X0) (Qzi dC dI cyI cyJ cyZ (va_A (w_X5_of cyI cyJ cyZ) sz) (w_X5_of cyI cyJ cyZ) r9) 0 0 (va_A (w_X5_of cyI cyJ cyZ) sz) := by
  refine Met_of (cc := cX5_of) (maxL := 2) (ret := (some .int)) (by decide) rfl (Nat.le_of_ble_eq_true rfl) ?_
  intro p e s m args below meth c ls C0 hsz hXs hP hD hS hl
  exact t_X5_of C0 hXs hf s.heap [] ls hP hD hS hl
abbrev w_X4_outcome (cyI cyJ cyZ : ClassId) (qB q_twos q_outs : Nat) (bCount : Int32) (outs : Nat → Int32) : va_W := [(qB, .inr (3, [.ref q_twos, .ref q_outs, .int bCount])), (q_outs, .inl (cyI, 36, .inl outs))]
abbrev rm_X4_outcome : Room := { frames := 0, cells := 0, slots := 0, locals := 0 }
theorem hn_X4_outcome_X4 : ∀ w ∈ wsX40, w ∈ wsX4_outcome := fun _ h => List.mem_cons_of_mem _ (List.mem_append_right _ h)
def f_X4_outcome (N : Nat) (x1 : Int32) (outs : Nat → Int32) : Option (Int32) :=
  gd (inb x1 36) (some (outs x1.toNatClampNeg))
set_option maxHeartbeats 4000000 in
set_option maxRecDepth 100000 in
theorem t_X4_outcome (C0 : Cx p s m args meth c cX4_outcome (some .int) 2 RX4 wsX4_outcome A dC dI cyI cyJ cyZ) {qB q_twos q_outs : Nat} (hXs : X0 A s) {N : Nat} {x1 : Int32} {outs : Nat → Int32} {bCount : Int32} {r9 : Int32} (hf : f_X4_outcome N x1 outs = some r9) (H : Heap) (locs : List Loc) (ls : Array Slot) (hP : va_P (dC, dI) vwCl (w_X4_outcome cyI cyJ cyZ qB q_twos q_outs bCount outs) H) (hD : va_D A (w_X4_outcome cyI cyJ cyZ qB q_twos q_outs bCount outs)) (hS : va_S A s.heap H locs) (hl : lv_has ls 2 [(0, .ref qB), (1, .int x1)]) : W p l e rm_X4_outcome s m args below meth c H locs 0 0 (MQ below (Qzi dC dI cyI cyJ cyZ A (w_X4_outcome cyI cyJ cyZ qB q_twos q_outs bCount outs) r9) args s 0 0 A) (F0 m 0 ls []) := by
  have C1 := C0
  obtain ⟨hx, hb, hr, hlocks, hml, hown, hts, hA, hK⟩ := C1
  unfold f_X4_outcome at hf
  refine lv_aload_n hx hb dX4_outcome_0 rfl (lv_at hl 0 rfl) ?_
  refine va_get (D := (dC, dI)) (ci := 3) (v := .ref q_outs) (C := RX4) (T := TX4) (N := 3) hx hb hts hn_X4_outcome_X4 hown hK hP 0 rfl rfl 1 (by decide) (hts (.fieldLink RX4 17 "MetAgents$RuleBook" "outcomes" "[I") (List.mem_of_getElem? (i := 1) rfl)) (fun _ h9 => h9) rfl dX4_outcome_1 ?_
  refine lv_iload_n hx hb dX4_outcome_4 rfl (lv_at hl 1 rfl) ?_
  obtain ⟨h_1, hf⟩ := gd_el hf
  refine va_iald hx hb hK hP 1 0 rfl rfl (inb_in h_1) dX4_outcome_5 ?_
  cases hf
  exact W.iret hx hb hr (fun t ht hW => ⟨⟨_, (), rfl, rfl, by rw [ht]; exact hP, va_K.moved hW.alike hK, hD⟩, hS.F ht⟩) hS.2.2 dX4_outcome_6
set_option maxHeartbeats 4000000 in
set_option maxRecDepth 100000 in
theorem c_X4_outcome (l : Launch) (dC : Nat → ClassId) (dI : Nat → Nat → Nat) (cyI cyJ cyZ : ClassId) (qB q_twos q_outs : Nat) (sz N : Nat) (x1 : Int32) (outs : Nat → Int32) (bCount : Int32) (r9 : Int32) (hf : f_X4_outcome N x1 outs = some r9) : Met l yX4_outcome wsX4_outcome rm_X4_outcome (Pz dC dI cyI cyJ cyZ [.ref qB, .int x1] sz (w_X4_outcome cyI cyJ cyZ qB q_twos q_outs bCount outs) X0) (Qzi dC dI cyI cyJ cyZ (va_A (w_X4_outcome cyI cyJ cyZ qB q_twos q_outs bCount outs) sz) (w_X4_outcome cyI cyJ cyZ qB q_twos q_outs bCount outs) r9) 0 0 (va_A (w_X4_outcome cyI cyJ cyZ qB q_twos q_outs bCount outs) sz) := by
  refine Met_of (cc := cX4_outcome) (maxL := 2) (ret := (some .int)) (by decide) rfl (Nat.le_of_ble_eq_true rfl) ?_
  intro p e s m args below meth c ls C0 hsz hXs hP hD hS hl
  exact t_X4_outcome C0 hXs hf s.heap [] ls hP hD hS hl
abbrev w_X2_bringTogether (cyI cyJ cyZ : ClassId) (qB q_twos q_outs qC q_states q_lastMet : Nat) (bCount : Int32) (cSize : Int32) (cMeet : Int32) (cChg : Int32) (cSeed : Int32) (outs : Nat → Int32) (states : Nat → Int32) (lastMet : Nat → Int32) : va_W := [(qB, .inr (3, [.ref q_twos, .ref q_outs, .int bCount])), (qC, .inr (1, [.ref q_states, .ref q_lastMet, .int cSize, .int cMeet, .int cChg, .int cSeed])), (q_outs, .inl (cyI, 36, .inl outs)), (q_states, .inl (cyI, 6, .inl states)), (q_lastMet, .inl (cyI, 36, .inl lastMet))]
abbrev rm_X2_bringTogether : Room := { frames := 1, cells := 0, slots := 0, locals := 21 }
theorem hn_X2_bringTogether_X2 : ∀ w ∈ wsX20, w ∈ wsX2_bringTogether := fun _ h => List.mem_cons_of_mem _ (List.mem_append_left _ (List.mem_append_right _ h))
def f_X2_bringTogether (N : Nat) (x2 : Int32) (x3 : Int32) (cMeet : Int32) (cChg : Int32) (outs : Nat → Int32) (states : Nat → Int32) (lastMet : Nat → Int32) : Option (Int32 × Int32 × Int32 × (Nat → Int32) × (Nat → Int32)) :=
  nm (cMeet + 1) (fun cMeet_1 => gd (inb ((x2 * 6) + x3) 36) (nm (upd lastMet ((x2 * 6) + x3).toNatClampNeg cMeet_1) (fun lastMet_3 => gd (inb x2 6) (gd (inb x3 6) (bd1 (f_X5_of N (states x2.toNatClampNeg) (states x3.toNatClampNeg)) (fun r_6 => bd1 (f_X4_outcome N r_6 outs) (fun r_7 => (if r_7 < 0 then some (0, cMeet_1, cChg, states, lastMet_3) else (if r_7 = r_6 then some (0, cMeet_1, cChg, states, lastMet_3) else bd1 (f_X5_first N r_7) (fun r_10 => gd (inb x2 6) (nm (upd states x2.toNatClampNeg r_10) (fun states_12 => bd1 (f_X5_second N r_7) (fun r_13 => gd (inb x3 6) (nm (upd states_12 x3.toNatClampNeg r_13) (fun states_15 => nm (cChg + 1) (fun cChg_16 => some (1, cMeet_1, cChg_16, states_15, lastMet_3)))))))))))))))))
set_option maxHeartbeats 4000000 in
set_option maxRecDepth 100000 in
theorem t_X2_bringTogether (C0 : Cx p s m args meth c cX2_bringTogether (some .int) 6 RX2 wsX2_bringTogether A dC dI cyI cyJ cyZ) {qB q_twos q_outs qC q_states q_lastMet : Nat} (hXs : X0 A s) {N : Nat} {x2 : Int32} {x3 : Int32} {cMeet : Int32} {cChg : Int32} {outs : Nat → Int32} {states : Nat → Int32} {lastMet : Nat → Int32} {bCount : Int32} {cSize : Int32} {cSeed : Int32} {r9 : Int32} {cMeet9 : Int32} {cChg9 : Int32} {states9 : Nat → Int32} {lastMet9 : Nat → Int32} (hf : f_X2_bringTogether N x2 x3 cMeet cChg outs states lastMet = some (r9, cMeet9, cChg9, states9, lastMet9)) (H : Heap) (locs : List Loc) (ls : Array Slot) (hP : va_P (dC, dI) vwCl (w_X2_bringTogether cyI cyJ cyZ qB q_twos q_outs qC q_states q_lastMet bCount cSize cMeet cChg cSeed outs states lastMet) H) (hD : va_D A (w_X2_bringTogether cyI cyJ cyZ qB q_twos q_outs qC q_states q_lastMet bCount cSize cMeet cChg cSeed outs states lastMet)) (hS : va_S A s.heap H locs) (hl : lv_has ls 6 [(0, .ref qC), (1, .ref qB), (2, .int x2), (3, .int x3)]) : W p l e rm_X2_bringTogether s m args below meth c H locs 0 0 (MQ below (Qzi dC dI cyI cyJ cyZ A (w_X2_bringTogether cyI cyJ cyZ qB q_twos q_outs qC q_states q_lastMet bCount cSize cMeet9 cChg9 cSeed outs states9 lastMet9) r9) args s 0 0 A) (F0 m 0 ls []) := by
  have C1 := C0
  obtain ⟨hx, hb, hr, hlocks, hml, hown, hts, hA, hK⟩ := C1
  unfold f_X2_bringTogether at hf
  refine lv_aload_n hx hb dX2_bringTogether_0 rfl (lv_at hl 0 rfl) ?_
  refine lv_dup hx hb dX2_bringTogether_1 rfl ?_
  refine va_get (D := (dC, dI)) (ci := 1) (v := .int cMeet) (C := RX2) (T := TX2) (N := 6) hx hb hts hn_X2_bringTogether_X2 hown hK hP 1 rfl rfl 3 (by decide) (hts (.fieldLink RX2 31 "MetAgents$Crowd" "meetings" "I") (List.mem_of_getElem? (i := 1) rfl)) (fun _ h9 => h9) rfl dX2_bringTogether_2 ?_
  refine lv_iconst (v := 1) hx hb dX2_bringTogether_5 (by decide) ?_
  refine lv_iadd hx hb dX2_bringTogether_6 ?_
  obtain ⟨cMeet_1, e_1, hf⟩ := nm_el hf
  refine top_i e_1 ?_
  refine va_put (D := (dC, dI)) (ci := 1) (v := .int cMeet_1) (ty := .int) (C := RX2) (T := TX2) (N := 6) hx hb hts hn_X2_bringTogether_X2 tyX2 tyX2_ok nmX2 hown hK hP hD hS 1 rfl rfl 3 (by decide) (hts (.fieldLink RX2 31 "MetAgents$Crowd" "meetings" "I") (List.mem_of_getElem? (i := 1) rfl)) (fun _ h9 => h9) rfl (by decide +kernel) rfl rfl (Nat.le_of_ble_eq_true rfl) dX2_bringTogether_7 (fun H locs (hP : va_P (dC, dI) vwCl (w_X2_bringTogether cyI cyJ cyZ qB q_twos q_outs qC q_states q_lastMet bCount cSize cMeet_1 cChg cSeed outs states lastMet) H) (hD : va_D A (w_X2_bringTogether cyI cyJ cyZ qB q_twos q_outs qC q_states q_lastMet bCount cSize cMeet_1 cChg cSeed outs states lastMet)) hS => ?_)
  refine lv_aload_n hx hb dX2_bringTogether_10 rfl (lv_at hl 0 rfl) ?_
  refine va_get (D := (dC, dI)) (ci := 1) (v := .ref q_lastMet) (C := RX2) (T := TX2) (N := 6) hx hb hts hn_X2_bringTogether_X2 hown hK hP 1 rfl rfl 1 (by decide) (hts (.fieldLink RX2 15 "MetAgents$Crowd" "lastMet" "[I") (List.mem_of_getElem? (i := 2) rfl)) (fun _ h9 => h9) rfl dX2_bringTogether_11 ?_
  refine lv_iload_n hx hb dX2_bringTogether_14 rfl (lv_at hl 2 rfl) ?_
  refine lv_bipush (v := 6) hx hb dX2_bringTogether_15 (by decide) ?_
  refine lv_imul hx hb dX2_bringTogether_17 ?_
  refine lv_iload_n hx hb dX2_bringTogether_18 rfl (lv_at hl 3 rfl) ?_
  refine lv_iadd hx hb dX2_bringTogether_19 ?_
  refine lv_aload_n hx hb dX2_bringTogether_20 rfl (lv_at hl 0 rfl) ?_
  refine va_get (D := (dC, dI)) (ci := 1) (v := .int cMeet_1) (C := RX2) (T := TX2) (N := 6) hx hb hts hn_X2_bringTogether_X2 hown hK hP 1 rfl rfl 3 (by decide) (hts (.fieldLink RX2 31 "MetAgents$Crowd" "meetings" "I") (List.mem_of_getElem? (i := 1) rfl)) (fun _ h9 => h9) rfl dX2_bringTogether_21 ?_
  obtain ⟨h_2, hf⟩ := gd_el hf
  obtain ⟨lastMet_3, e_3, hf⟩ := nm_el hf
  refine ast_i (w2 := (w_X2_bringTogether cyI cyJ cyZ qB q_twos q_outs qC q_states q_lastMet bCount cSize cMeet_1 cChg cSeed outs states lastMet_3)) hx hb hK hP hD hS 4 0 rfl rfl (inb_in h_2) e_3 rfl dX2_bringTogether_24 (fun H locs hP hD hS => ?_)
  refine lv_aload_n hx hb dX2_bringTogether_25 rfl (lv_at hl 0 rfl) ?_
  refine va_get (D := (dC, dI)) (ci := 1) (v := .ref q_states) (C := RX2) (T := TX2) (N := 6) hx hb hts hn_X2_bringTogether_X2 hown hK hP 1 rfl rfl 0 (by decide) (hts (.fieldLink RX2 9 "MetAgents$Crowd" "states" "[I") (List.mem_of_getElem? (i := 3) rfl)) (fun _ h9 => h9) rfl dX2_bringTogether_26 ?_
  refine lv_iload_n hx hb dX2_bringTogether_29 rfl (lv_at hl 2 rfl) ?_
  obtain ⟨h_4, hf⟩ := gd_el hf
  refine va_iald hx hb hK hP 3 0 rfl rfl (inb_in h_4) dX2_bringTogether_30 ?_
  refine lv_aload_n hx hb dX2_bringTogether_31 rfl (lv_at hl 0 rfl) ?_
  refine va_get (D := (dC, dI)) (ci := 1) (v := .ref q_states) (C := RX2) (T := TX2) (N := 6) hx hb hts hn_X2_bringTogether_X2 hown hK hP 1 rfl rfl 0 (by decide) (hts (.fieldLink RX2 9 "MetAgents$Crowd" "states" "[I") (List.mem_of_getElem? (i := 3) rfl)) (fun _ h9 => h9) rfl dX2_bringTogether_32 ?_
  refine lv_iload_n hx hb dX2_bringTogether_35 rfl (lv_at hl 3 rfl) ?_
  obtain ⟨h_5, hf⟩ := gd_el hf
  refine va_iald hx hb hK hP 3 0 rfl rfl (inb_in h_5) dX2_bringTogether_36 ?_
  obtain ⟨r_6, hc, hf⟩ := bd1_el hf
  refine cl_i (wc := (w_X5_of cyI cyJ cyZ)) (wr := [(qB, .inr (3, [.ref q_twos, .ref q_outs, .int bCount])), (qC, .inr (1, [.ref q_states, .ref q_lastMet, .int cSize, .int cMeet_1, .int cChg, .int cSeed])), (q_outs, .inl (cyI, 36, .inl outs)), (q_states, .inl (cyI, 6, .inl states)), (q_lastMet, .inl (cyI, 36, .inl lastMet_3))]) (w1 := (w_X5_of cyI cyJ cyZ)) (w2 := (w_X2_bringTogether cyI cyJ cyZ qB q_twos q_outs qC q_states q_lastMet bCount cSize cMeet_1 cChg cSeed outs states lastMet_3)) C0 (rn_S (As := [.int (states x2.toNatClampNeg), .int (states x3.toNatClampNeg)]) (rest := []) (wc := (w_X5_of cyI cyJ cyZ)) (X := X0) C0 (c_X5_of l dC dI cyI cyJ cyZ H.size N (states x2.toNatClampNeg) (states x3.toNatClampNeg) r_6 hc) (va_cwS 2 hts gX2_bringTogether_X5_of rfl rfl rfl (by decide +kernel) ⟨Nat.le_of_ble_eq_true rfl, Nat.le_of_ble_eq_true rfl⟩) X0_car trivial hP hD hS [] rfl rfl rfl hl.1 rfl (Nat.le_of_ble_eq_true rfl) dX2_bringTogether_37 ⟨Nat.le_of_ble_eq_true rfl, Nat.le_of_ble_eq_true rfl⟩) hP hD hS [] [0, 1, 2, 3, 4] [0, 1, 2, 3, 4] rfl rfl rfl (by decide) rfl rfl (fun H locs hP hD hS => ?_)
  refine lv_istore (lv' := [(4, .int r_6), (0, .ref qC), (1, .ref qB), (2, .int x2), (3, .int x3)]) hx hb dX2_bringTogether_40 hl (by decide) rfl (fun ls hl => ?_)
  refine lv_aload_n hx hb dX2_bringTogether_42 rfl (lv_at hl 2 rfl) ?_
  refine lv_iload hx hb dX2_bringTogether_43 (lv_at hl 0 rfl) ?_
  obtain ⟨r_7, hc, hf⟩ := bd1_el hf
  refine cl_i (wc := (w_X4_outcome cyI cyJ cyZ qB q_twos q_outs bCount outs)) (wr := [(qC, .inr (1, [.ref q_states, .ref q_lastMet, .int cSize, .int cMeet_1, .int cChg, .int cSeed])), (q_states, .inl (cyI, 6, .inl states)), (q_lastMet, .inl (cyI, 36, .inl lastMet_3))]) (w1 := (w_X4_outcome cyI cyJ cyZ qB q_twos q_outs bCount outs)) (w2 := (w_X2_bringTogether cyI cyJ cyZ qB q_twos q_outs qC q_states q_lastMet bCount cSize cMeet_1 cChg cSeed outs states lastMet_3)) C0 (rn_V (As := [.int r_6]) (rest := []) (wc := (w_X4_outcome cyI cyJ cyZ qB q_twos q_outs bCount outs)) (X := X0) C0 (c_X4_outcome l dC dI cyI cyJ cyZ qB q_twos q_outs H.size N r_6 outs bCount r_7 hc) (cwV 1 hts gX2_bringTogether_X4_outcome rfl rfl rfl (by decide +kernel) ⟨Nat.le_of_ble_eq_true rfl, Nat.le_of_ble_eq_true rfl⟩) X0_car trivial hP hD hS [0, 2] rfl rfl 0 3 rfl rfl rfl hl.1 rfl (Nat.le_of_ble_eq_true rfl) dX2_bringTogether_45 ⟨Nat.le_of_ble_eq_true rfl, Nat.le_of_ble_eq_true rfl⟩) hP hD hS [0, 2] [1, 3, 4] [3, 0, 4, 1, 2] rfl rfl rfl (by decide) rfl rfl (fun H locs hP hD hS => ?_)
  refine lv_istore (lv' := [(5, .int r_7), (4, .int r_6), (0, .ref qC), (1, .ref qB), (2, .int x2), (3, .int x3)]) hx hb dX2_bringTogether_48 hl (by decide) rfl (fun ls hl => ?_)
  refine lv_iload hx hb dX2_bringTogether_50 (lv_at hl 0 rfl) ?_
  refine lv_if_lt (tgt := 62) hx hb dX2_bringTogether_52 (by decide) (fun c_8 => ?_) (fun c_8 => ?_)
  · replace hf := it_t hf c_8
    refine lv_iconst (v := 0) hx hb dX2_bringTogether_62 (by decide) ?_
    cases hf
    exact W.iret hx hb hr (fun t ht hW => ⟨⟨_, (), rfl, rfl, by rw [ht]; exact hP, va_K.moved hW.alike hK, hD⟩, hS.F ht⟩) hS.2.2 dX2_bringTogether_63
  · replace hf := it_f hf c_8
    refine lv_iload hx hb dX2_bringTogether_55 (lv_at hl 0 rfl) ?_
    refine lv_iload hx hb dX2_bringTogether_57 (lv_at hl 1 rfl) ?_
    refine lv_icmp_ne (tgt := 64) hx hb dX2_bringTogether_59 (by decide) (fun c_9 => ?_) (fun c_9 => ?_)
    · replace hf := it_f hf c_9
      refine lv_aload_n hx hb dX2_bringTogether_64 rfl (lv_at hl 2 rfl) ?_
      refine va_get (D := (dC, dI)) (ci := 1) (v := .ref q_states) (C := RX2) (T := TX2) (N := 6) hx hb hts hn_X2_bringTogether_X2 hown hK hP 1 rfl rfl 0 (by decide) (hts (.fieldLink RX2 9 "MetAgents$Crowd" "states" "[I") (List.mem_of_getElem? (i := 3) rfl)) (fun _ h9 => h9) rfl dX2_bringTogether_65 ?_
      refine lv_iload_n hx hb dX2_bringTogether_68 rfl (lv_at hl 4 rfl) ?_
      refine lv_iload hx hb dX2_bringTogether_69 (lv_at hl 0 rfl) ?_
      obtain ⟨r_10, hc, hf⟩ := bd1_el hf
      refine cl_i (wc := (w_X5_first cyI cyJ cyZ)) (wr := [(qB, .inr (3, [.ref q_twos, .ref q_outs, .int bCount])), (qC, .inr (1, [.ref q_states, .ref q_lastMet, .int cSize, .int cMeet_1, .int cChg, .int cSeed])), (q_outs, .inl (cyI, 36, .inl outs)), (q_states, .inl (cyI, 6, .inl states)), (q_lastMet, .inl (cyI, 36, .inl lastMet_3))]) (w1 := (w_X5_first cyI cyJ cyZ)) (w2 := (w_X2_bringTogether cyI cyJ cyZ qB q_twos q_outs qC q_states q_lastMet bCount cSize cMeet_1 cChg cSeed outs states lastMet_3)) C0 (rn_S (As := [.int r_7]) (rest := [.int x2, .ref q_states]) (wc := (w_X5_first cyI cyJ cyZ)) (X := X0) C0 (c_X5_first l dC dI cyI cyJ cyZ H.size N r_7 r_10 hc) (va_cwS 1 hts gX2_bringTogether_X5_first rfl rfl rfl (by decide +kernel) ⟨Nat.le_of_ble_eq_true rfl, Nat.le_of_ble_eq_true rfl⟩) X0_car trivial hP hD hS [] rfl rfl rfl hl.1 rfl (Nat.le_of_ble_eq_true rfl) dX2_bringTogether_71 ⟨Nat.le_of_ble_eq_true rfl, Nat.le_of_ble_eq_true rfl⟩) hP hD hS [] [0, 1, 2, 3, 4] [0, 1, 2, 3, 4] rfl rfl rfl (by decide) rfl rfl (fun H locs hP hD hS => ?_)
      obtain ⟨h_11, hf⟩ := gd_el hf
      obtain ⟨states_12, e_12, hf⟩ := nm_el hf
      refine ast_i (w2 := (w_X2_bringTogether cyI cyJ cyZ qB q_twos q_outs qC q_states q_lastMet bCount cSize cMeet_1 cChg cSeed outs states_12 lastMet_3)) hx hb hK hP hD hS 3 0 rfl rfl (inb_in h_11) e_12 rfl dX2_bringTogether_74 (fun H locs hP hD hS => ?_)
      refine lv_aload_n hx hb dX2_bringTogether_75 rfl (lv_at hl 2 rfl) ?_
      refine va_get (D := (dC, dI)) (ci := 1) (v := .ref q_states) (C := RX2) (T := TX2) (N := 6) hx hb hts hn_X2_bringTogether_X2 hown hK hP 1 rfl rfl 0 (by decide) (hts (.fieldLink RX2 9 "MetAgents$Crowd" "states" "[I") (List.mem_of_getElem? (i := 3) rfl)) (fun _ h9 => h9) rfl dX2_bringTogether_76 ?_
      refine lv_iload_n hx hb dX2_bringTogether_79 rfl (lv_at hl 5 rfl) ?_
      refine lv_iload hx hb dX2_bringTogether_80 (lv_at hl 0 rfl) ?_
      obtain ⟨r_13, hc, hf⟩ := bd1_el hf
      refine cl_i (wc := (w_X5_second cyI cyJ cyZ)) (wr := [(qB, .inr (3, [.ref q_twos, .ref q_outs, .int bCount])), (qC, .inr (1, [.ref q_states, .ref q_lastMet, .int cSize, .int cMeet_1, .int cChg, .int cSeed])), (q_outs, .inl (cyI, 36, .inl outs)), (q_states, .inl (cyI, 6, .inl states_12)), (q_lastMet, .inl (cyI, 36, .inl lastMet_3))]) (w1 := (w_X5_second cyI cyJ cyZ)) (w2 := (w_X2_bringTogether cyI cyJ cyZ qB q_twos q_outs qC q_states q_lastMet bCount cSize cMeet_1 cChg cSeed outs states_12 lastMet_3)) C0 (rn_S (As := [.int r_7]) (rest := [.int x3, .ref q_states]) (wc := (w_X5_second cyI cyJ cyZ)) (X := X0) C0 (c_X5_second l dC dI cyI cyJ cyZ H.size N r_7 r_13 hc) (va_cwS 1 hts gX2_bringTogether_X5_second rfl rfl rfl (by decide +kernel) ⟨Nat.le_of_ble_eq_true rfl, Nat.le_of_ble_eq_true rfl⟩) X0_car trivial hP hD hS [] rfl rfl rfl hl.1 rfl (Nat.le_of_ble_eq_true rfl) dX2_bringTogether_82 ⟨Nat.le_of_ble_eq_true rfl, Nat.le_of_ble_eq_true rfl⟩) hP hD hS [] [0, 1, 2, 3, 4] [0, 1, 2, 3, 4] rfl rfl rfl (by decide) rfl rfl (fun H locs hP hD hS => ?_)
      obtain ⟨h_14, hf⟩ := gd_el hf
      obtain ⟨states_15, e_15, hf⟩ := nm_el hf
      refine ast_i (w2 := (w_X2_bringTogether cyI cyJ cyZ qB q_twos q_outs qC q_states q_lastMet bCount cSize cMeet_1 cChg cSeed outs states_15 lastMet_3)) hx hb hK hP hD hS 3 0 rfl rfl (inb_in h_14) e_15 rfl dX2_bringTogether_85 (fun H locs hP hD hS => ?_)
      refine lv_aload_n hx hb dX2_bringTogether_86 rfl (lv_at hl 2 rfl) ?_
      refine lv_dup hx hb dX2_bringTogether_87 rfl ?_
      refine va_get (D := (dC, dI)) (ci := 1) (v := .int cChg) (C := RX2) (T := TX2) (N := 6) hx hb hts hn_X2_bringTogether_X2 hown hK hP 1 rfl rfl 4 (by decide) (hts (.fieldLink RX2 34 "MetAgents$Crowd" "changes" "I") (List.mem_of_getElem? (i := 4) rfl)) (fun _ h9 => h9) rfl dX2_bringTogether_88 ?_
      refine lv_iconst (v := 1) hx hb dX2_bringTogether_91 (by decide) ?_
      refine lv_iadd hx hb dX2_bringTogether_92 ?_
      obtain ⟨cChg_16, e_16, hf⟩ := nm_el hf
      refine top_i e_16 ?_
      refine va_put (D := (dC, dI)) (ci := 1) (v := .int cChg_16) (ty := .int) (C := RX2) (T := TX2) (N := 6) hx hb hts hn_X2_bringTogether_X2 tyX2 tyX2_ok nmX2 hown hK hP hD hS 1 rfl rfl 4 (by decide) (hts (.fieldLink RX2 34 "MetAgents$Crowd" "changes" "I") (List.mem_of_getElem? (i := 4) rfl)) (fun _ h9 => h9) rfl (by decide +kernel) rfl rfl (Nat.le_of_ble_eq_true rfl) dX2_bringTogether_93 (fun H locs (hP : va_P (dC, dI) vwCl (w_X2_bringTogether cyI cyJ cyZ qB q_twos q_outs qC q_states q_lastMet bCount cSize cMeet_1 cChg_16 cSeed outs states_15 lastMet_3) H) (hD : va_D A (w_X2_bringTogether cyI cyJ cyZ qB q_twos q_outs qC q_states q_lastMet bCount cSize cMeet_1 cChg_16 cSeed outs states_15 lastMet_3)) hS => ?_)
      refine lv_iconst (v := 1) hx hb dX2_bringTogether_96 (by decide) ?_
      cases hf
      exact W.iret hx hb hr (fun t ht hW => ⟨⟨_, (), rfl, rfl, by rw [ht]; exact hP, va_K.moved hW.alike hK, hD⟩, hS.F ht⟩) hS.2.2 dX2_bringTogether_97
    · replace hf := it_t hf c_9
      refine lv_iconst (v := 0) hx hb dX2_bringTogether_62 (by decide) ?_
      cases hf
      exact W.iret hx hb hr (fun t ht hW => ⟨⟨_, (), rfl, rfl, by rw [ht]; exact hP, va_K.moved hW.alike hK, hD⟩, hS.F ht⟩) hS.2.2 dX2_bringTogether_63
set_option maxHeartbeats 4000000 in
set_option maxRecDepth 100000 in
theorem c_X2_bringTogether (l : Launch) (dC : Nat → ClassId) (dI : Nat → Nat → Nat) (cyI cyJ cyZ : ClassId) (qB q_twos q_outs qC q_states q_lastMet : Nat) (sz N : Nat) (x2 : Int32) (x3 : Int32) (cMeet : Int32) (cChg : Int32) (outs : Nat → Int32) (states : Nat → Int32) (lastMet : Nat → Int32) (bCount : Int32) (cSize : Int32) (cSeed : Int32) (r9 : Int32) (cMeet9 : Int32) (cChg9 : Int32) (states9 : Nat → Int32) (lastMet9 : Nat → Int32) (hf : f_X2_bringTogether N x2 x3 cMeet cChg outs states lastMet = some (r9, cMeet9, cChg9, states9, lastMet9)) : Met l yX2_bringTogether wsX2_bringTogether rm_X2_bringTogether (Pz dC dI cyI cyJ cyZ [.ref qC, .ref qB, .int x2, .int x3] sz (w_X2_bringTogether cyI cyJ cyZ qB q_twos q_outs qC q_states q_lastMet bCount cSize cMeet cChg cSeed outs states lastMet) X0) (Qzi dC dI cyI cyJ cyZ (va_A (w_X2_bringTogether cyI cyJ cyZ qB q_twos q_outs qC q_states q_lastMet bCount cSize cMeet cChg cSeed outs states lastMet) sz) (w_X2_bringTogether cyI cyJ cyZ qB q_twos q_outs qC q_states q_lastMet bCount cSize cMeet9 cChg9 cSeed outs states9 lastMet9) r9) 0 0 (va_A (w_X2_bringTogether cyI cyJ cyZ qB q_twos q_outs qC q_states q_lastMet bCount cSize cMeet cChg cSeed outs states lastMet) sz) := by
  refine Met_of (cc := cX2_bringTogether) (maxL := 6) (ret := (some .int)) (by decide) rfl (Nat.le_of_ble_eq_true rfl) ?_
  intro p e s m args below meth c ls C0 hsz hXs hP hD hS hl
  exact t_X2_bringTogether C0 hXs hf s.heap [] ls hP hD hS hl
abbrev w_X2_bringDrawn (cyI cyJ cyZ : ClassId) (qB q_twos q_outs qC q_states q_lastMet : Nat) (bCount : Int32) (cSize : Int32) (cMeet : Int32) (cChg : Int32) (cSeed : Int32) (outs : Nat → Int32) (states : Nat → Int32) (lastMet : Nat → Int32) : va_W := [(qB, .inr (3, [.ref q_twos, .ref q_outs, .int bCount])), (qC, .inr (1, [.ref q_states, .ref q_lastMet, .int cSize, .int cMeet, .int cChg, .int cSeed])), (q_outs, .inl (cyI, 36, .inl outs)), (q_states, .inl (cyI, 6, .inl states)), (q_lastMet, .inl (cyI, 36, .inl lastMet))]
abbrev rm_X2_bringDrawn : Room := { frames := 2, cells := 0, slots := 0, locals := 46 }
theorem hn_X2_bringDrawn_X2 : ∀ w ∈ wsX20, w ∈ wsX2_bringDrawn := fun _ h => List.mem_cons_of_mem _ (List.mem_append_left _ (List.mem_append_right _ h))
def f_X2_bringDrawn_j74 (N : Nat) (y2 : Int32) (y3 : Int32) (cSize : Int32) (cMeet : Int32) (cChg : Int32) (cSeed : Int32) (outs : Nat → Int32) (states : Nat → Int32) (lastMet : Nat → Int32) : Option (Int32 × Int32 × Int32 × Int32 × (Nat → Int32) × (Nat → Int32)) :=
  bd5 (f_X2_bringTogether N y2 y3 cMeet cChg outs states lastMet) (fun r_11 cMeet_12 cChg_13 states_14 lastMet_15 => some (r_11, cMeet_12, cChg_13, cSeed, states_14, lastMet_15))
set_option maxHeartbeats 4000000 in
set_option maxRecDepth 100000 in
theorem t_X2_bringDrawn_j74 (C0 : Cx p s m args meth c cX2_bringDrawn (some .int) 6 RX2 wsX2_bringDrawn A dC dI cyI cyJ cyZ) {qB q_twos q_outs qC q_states q_lastMet : Nat} (hXs : X0 A s) {N : Nat} {y2 : Int32} {y3 : Int32} {cSize : Int32} {cMeet : Int32} {cChg : Int32} {cSeed : Int32} {outs : Nat → Int32} {states : Nat → Int32} {lastMet : Nat → Int32} {bCount : Int32} {r9 : Int32} {cMeet9 : Int32} {cChg9 : Int32} {cSeed9 : Int32} {states9 : Nat → Int32} {lastMet9 : Nat → Int32} (hf : f_X2_bringDrawn_j74 N y2 y3 cSize cMeet cChg cSeed outs states lastMet = some (r9, cMeet9, cChg9, cSeed9, states9, lastMet9)) (H : Heap) (locs : List Loc) (ls : Array Slot) (hP : va_P (dC, dI) vwCl (w_X2_bringDrawn cyI cyJ cyZ qB q_twos q_outs qC q_states q_lastMet bCount cSize cMeet cChg cSeed outs states lastMet) H) (hD : va_D A (w_X2_bringDrawn cyI cyJ cyZ qB q_twos q_outs qC q_states q_lastMet bCount cSize cMeet cChg cSeed outs states lastMet)) (hS : va_S A s.heap H locs) (hl : lv_has ls 6 []) : W p l e rm_X2_bringDrawn s m args below meth c H locs 0 0 (MQ below (Qzi dC dI cyI cyJ cyZ A (w_X2_bringDrawn cyI cyJ cyZ qB q_twos q_outs qC q_states q_lastMet bCount cSize cMeet9 cChg9 cSeed9 outs states9 lastMet9) r9) args s 0 0 A) (F0 m 74 ls [.int y3, .int y2, .ref qB, .ref qC]) := by
  have C1 := C0
  obtain ⟨hx, hb, hr, hlocks, hml, hown, hts, hA, hK⟩ := C1
  unfold f_X2_bringDrawn_j74 at hf
  obtain ⟨r_11, cMeet_12, cChg_13, states_14, lastMet_15, hc, hf⟩ := bd5_el hf
  refine cl_i (wc := (w_X2_bringTogether cyI cyJ cyZ qB q_twos q_outs qC q_states q_lastMet bCount cSize cMeet cChg cSeed outs states lastMet)) (wr := []) (w1 := (w_X2_bringTogether cyI cyJ cyZ qB q_twos q_outs qC q_states q_lastMet bCount cSize cMeet_12 cChg_13 cSeed outs states_14 lastMet_15)) (w2 := (w_X2_bringDrawn cyI cyJ cyZ qB q_twos q_outs qC q_states q_lastMet bCount cSize cMeet_12 cChg_13 cSeed outs states_14 lastMet_15)) C0 (rn_V (As := [.ref qB, .int y2, .int y3]) (rest := []) (wc := (w_X2_bringTogether cyI cyJ cyZ qB q_twos q_outs qC q_states q_lastMet bCount cSize cMeet cChg cSeed outs states lastMet)) (X := X0) C0 (c_X2_bringTogether l dC dI cyI cyJ cyZ qB q_twos q_outs qC q_states q_lastMet H.size N y2 y3 cMeet cChg outs states lastMet bCount cSize cSeed r_11 cMeet_12 cChg_13 states_14 lastMet_15 hc) (cwV 3 hts gX2_bringDrawn_X2_bringTogether rfl rfl rfl (by decide +kernel) ⟨Nat.le_of_ble_eq_true rfl, Nat.le_of_ble_eq_true rfl⟩) X0_car trivial hP hD hS [0, 1, 2, 3, 4] rfl rfl 1 1 rfl rfl rfl hl.1 rfl (Nat.le_of_ble_eq_true rfl) dX2_bringDrawn_74 ⟨Nat.le_of_ble_eq_true rfl, Nat.le_of_ble_eq_true rfl⟩) hP hD hS [0, 1, 2, 3, 4] [] [0, 1, 2, 3, 4] rfl rfl rfl (by decide) rfl rfl (fun H locs hP hD hS => ?_)
  cases hf
  exact W.iret hx hb hr (fun t ht hW => ⟨⟨_, (), rfl, rfl, by rw [ht]; exact hP, va_K.moved hW.alike hK, hD⟩, hS.F ht⟩) hS.2.2 dX2_bringDrawn_77
def f_X2_bringDrawn (N : Nat) (cSize : Int32) (cMeet : Int32) (cChg : Int32) (cSeed : Int32) (outs : Nat → Int32) (states : Nat → Int32) (lastMet : Nat → Int32) : Option (Int32 × Int32 × Int32 × Int32 × (Nat → Int32) × (Nat → Int32)) :=
  nm (cSize - 1) (fun x2_1 => (if 1 ≤ x2_1 then nm ((1103515245 * cSeed) + 12345) (fun cSeed_3 => gd (nz (cSize * x2_1)) (nm (((cSeed_3.toUInt32 >>> ((16 : Int32).toUInt32 &&& Int32.toUInt32 31)).toInt32) - ((cSeed_3.toUInt32 >>> ((16 : Int32).toUInt32 &&& Int32.toUInt32 31)).toInt32) / (cSize * x2_1) * (cSize * x2_1)) (fun x3_5 => gd (nz x2_1) (nm (x3_5 / x2_1) (fun x4_7 => gd (nz x2_1) (nm (x3_5 - x3_5 / x2_1 * x2_1) (fun x5_9 => (if x5_9 < x4_7 then f_X2_bringDrawn_j74 N x4_7 x5_9 cSize cMeet cChg cSeed_3 outs states lastMet else f_X2_bringDrawn_j74 N x4_7 (x5_9 + 1) cSize cMeet cChg cSeed_3 outs states lastMet)))))))) else some (0, cMeet, cChg, cSeed, states, lastMet)))
set_option maxHeartbeats 4000000 in
set_option maxRecDepth 100000 in
theorem t_X2_bringDrawn (C0 : Cx p s m args meth c cX2_bringDrawn (some .int) 6 RX2 wsX2_bringDrawn A dC dI cyI cyJ cyZ) {qB q_twos q_outs qC q_states q_lastMet : Nat} (hXs : X0 A s) {N : Nat} {cSize : Int32} {cMeet : Int32} {cChg : Int32} {cSeed : Int32} {outs : Nat → Int32} {states : Nat → Int32} {lastMet : Nat → Int32} {bCount : Int32} {r9 : Int32} {cMeet9 : Int32} {cChg9 : Int32} {cSeed9 : Int32} {states9 : Nat → Int32} {lastMet9 : Nat → Int32} (hf : f_X2_bringDrawn N cSize cMeet cChg cSeed outs states lastMet = some (r9, cMeet9, cChg9, cSeed9, states9, lastMet9)) (H : Heap) (locs : List Loc) (ls : Array Slot) (hP : va_P (dC, dI) vwCl (w_X2_bringDrawn cyI cyJ cyZ qB q_twos q_outs qC q_states q_lastMet bCount cSize cMeet cChg cSeed outs states lastMet) H) (hD : va_D A (w_X2_bringDrawn cyI cyJ cyZ qB q_twos q_outs qC q_states q_lastMet bCount cSize cMeet cChg cSeed outs states lastMet)) (hS : va_S A s.heap H locs) (hl : lv_has ls 6 [(0, .ref qC), (1, .ref qB)]) : W p l e rm_X2_bringDrawn s m args below meth c H locs 0 0 (MQ below (Qzi dC dI cyI cyJ cyZ A (w_X2_bringDrawn cyI cyJ cyZ qB q_twos q_outs qC q_states q_lastMet bCount cSize cMeet9 cChg9 cSeed9 outs states9 lastMet9) r9) args s 0 0 A) (F0 m 0 ls []) := by
  have C1 := C0
  obtain ⟨hx, hb, hr, hlocks, hml, hown, hts, hA, hK⟩ := C1
  unfold f_X2_bringDrawn at hf
  refine lv_aload_n hx hb dX2_bringDrawn_0 rfl (lv_at hl 0 rfl) ?_
  refine va_get (D := (dC, dI)) (ci := 1) (v := .int cSize) (C := RX2) (T := TX2) (N := 6) hx hb hts hn_X2_bringDrawn_X2 hown hK hP 1 rfl rfl 2 (by decide) (hts (.fieldLink RX2 28 "MetAgents$Crowd" "size" "I") (List.mem_of_getElem? (i := 1) rfl)) (fun _ h9 => h9) rfl dX2_bringDrawn_1 ?_
  refine lv_iconst (v := 1) hx hb dX2_bringDrawn_4 (by decide) ?_
  refine lv_isub hx hb dX2_bringDrawn_5 ?_
  obtain ⟨x2_1, e_1, hf⟩ := nm_el hf
  refine top_i e_1 ?_
  refine lv_istore_n (lv' := [(2, .int x2_1), (0, .ref qC), (1, .ref qB)]) hx hb dX2_bringDrawn_6 rfl hl (by decide) rfl (fun ls hl => ?_)
  refine lv_iload_n hx hb dX2_bringDrawn_7 rfl (lv_at hl 0 rfl) ?_
  refine lv_iconst (v := 1) hx hb dX2_bringDrawn_8 (by decide) ?_
  refine lv_icmp_ge (tgt := 14) hx hb dX2_bringDrawn_9 (by decide) (fun c_2 => ?_) (fun c_2 => ?_)
  · replace hf := it_t hf c_2
    refine lv_aload_n hx hb dX2_bringDrawn_14 rfl (lv_at hl 1 rfl) ?_
    refine lv_ldc hx hb hown (hts (.constant RX2 60 (1103515245)) (List.mem_of_getElem? (i := 2) rfl)) dX2_bringDrawn_15 ?_
    refine lv_aload_n hx hb dX2_bringDrawn_17 rfl (lv_at hl 1 rfl) ?_
    refine va_get (D := (dC, dI)) (ci := 1) (v := .int cSeed) (C := RX2) (T := TX2) (N := 6) hx hb hts hn_X2_bringDrawn_X2 hown hK hP 1 rfl rfl 5 (by decide) (hts (.fieldLink RX2 18 "MetAgents$Crowd" "drawn" "I") (List.mem_of_getElem? (i := 3) rfl)) (fun _ h9 => h9) rfl dX2_bringDrawn_18 ?_
    refine lv_imul hx hb dX2_bringDrawn_21 ?_
    refine lv_sipush (v := 12345) hx hb dX2_bringDrawn_22 (by decide) ?_
    refine lv_iadd hx hb dX2_bringDrawn_25 ?_
    obtain ⟨cSeed_3, e_3, hf⟩ := nm_el hf
    refine top_i e_3 ?_
    refine va_put (D := (dC, dI)) (ci := 1) (v := .int cSeed_3) (ty := .int) (C := RX2) (T := TX2) (N := 6) hx hb hts hn_X2_bringDrawn_X2 tyX2 tyX2_ok nmX2 hown hK hP hD hS 1 rfl rfl 5 (by decide) (hts (.fieldLink RX2 18 "MetAgents$Crowd" "drawn" "I") (List.mem_of_getElem? (i := 3) rfl)) (fun _ h9 => h9) rfl (by decide +kernel) rfl rfl (Nat.le_of_ble_eq_true rfl) dX2_bringDrawn_26 (fun H locs (hP : va_P (dC, dI) vwCl (w_X2_bringDrawn cyI cyJ cyZ qB q_twos q_outs qC q_states q_lastMet bCount cSize cMeet cChg cSeed_3 outs states lastMet) H) (hD : va_D A (w_X2_bringDrawn cyI cyJ cyZ qB q_twos q_outs qC q_states q_lastMet bCount cSize cMeet cChg cSeed_3 outs states lastMet)) hS => ?_)
    refine lv_aload_n hx hb dX2_bringDrawn_29 rfl (lv_at hl 1 rfl) ?_
    refine va_get (D := (dC, dI)) (ci := 1) (v := .int cSeed_3) (C := RX2) (T := TX2) (N := 6) hx hb hts hn_X2_bringDrawn_X2 hown hK hP 1 rfl rfl 5 (by decide) (hts (.fieldLink RX2 18 "MetAgents$Crowd" "drawn" "I") (List.mem_of_getElem? (i := 3) rfl)) (fun _ h9 => h9) rfl dX2_bringDrawn_30 ?_
    refine lv_bipush (v := 16) hx hb dX2_bringDrawn_33 (by decide) ?_
    refine lv_iushr hx hb dX2_bringDrawn_35 rfl ?_
    refine lv_aload_n hx hb dX2_bringDrawn_36 rfl (lv_at hl 1 rfl) ?_
    refine va_get (D := (dC, dI)) (ci := 1) (v := .int cSize) (C := RX2) (T := TX2) (N := 6) hx hb hts hn_X2_bringDrawn_X2 hown hK hP 1 rfl rfl 2 (by decide) (hts (.fieldLink RX2 28 "MetAgents$Crowd" "size" "I") (List.mem_of_getElem? (i := 1) rfl)) (fun _ h9 => h9) rfl dX2_bringDrawn_37 ?_
    refine lv_iload_n hx hb dX2_bringDrawn_40 rfl (lv_at hl 0 rfl) ?_
    refine lv_imul hx hb dX2_bringDrawn_41 ?_
    obtain ⟨h_4, hf⟩ := gd_el hf
    refine lv_irem hx hb dX2_bringDrawn_42 (nz_ne h_4) ?_
    obtain ⟨x3_5, e_5, hf⟩ := nm_el hf
    refine top_i e_5 ?_
    refine lv_istore_n (lv' := [(3, .int x3_5), (2, .int x2_1), (0, .ref qC), (1, .ref qB)]) hx hb dX2_bringDrawn_43 rfl hl (by decide) rfl (fun ls hl => ?_)
    refine lv_iload_n hx hb dX2_bringDrawn_44 rfl (lv_at hl 0 rfl) ?_
    refine lv_iload_n hx hb dX2_bringDrawn_45 rfl (lv_at hl 1 rfl) ?_
    obtain ⟨h_6, hf⟩ := gd_el hf
    refine lv_idiv hx hb dX2_bringDrawn_46 (nz_ne h_6) ?_
    obtain ⟨x4_7, e_7, hf⟩ := nm_el hf
    refine top_i e_7 ?_
    refine lv_istore (lv' := [(4, .int x4_7), (3, .int x3_5), (2, .int x2_1), (0, .ref qC), (1, .ref qB)]) hx hb dX2_bringDrawn_47 hl (by decide) rfl (fun ls hl => ?_)
    refine lv_iload_n hx hb dX2_bringDrawn_49 rfl (lv_at hl 1 rfl) ?_
    refine lv_iload_n hx hb dX2_bringDrawn_50 rfl (lv_at hl 2 rfl) ?_
    obtain ⟨h_8, hf⟩ := gd_el hf
    refine lv_irem hx hb dX2_bringDrawn_51 (nz_ne h_8) ?_
    obtain ⟨x5_9, e_9, hf⟩ := nm_el hf
    refine top_i e_9 ?_
    refine lv_istore (lv' := [(5, .int x5_9), (4, .int x4_7), (3, .int x3_5), (2, .int x2_1), (0, .ref qC), (1, .ref qB)]) hx hb dX2_bringDrawn_52 hl (by decide) rfl (fun ls hl => ?_)
    refine lv_aload_n hx hb dX2_bringDrawn_54 rfl (lv_at hl 4 rfl) ?_
    refine lv_aload_n hx hb dX2_bringDrawn_55 rfl (lv_at hl 5 rfl) ?_
    refine lv_iload hx hb dX2_bringDrawn_56 (lv_at hl 1 rfl) ?_
    refine lv_iload hx hb dX2_bringDrawn_58 (lv_at hl 0 rfl) ?_
    refine lv_iload hx hb dX2_bringDrawn_60 (lv_at hl 1 rfl) ?_
    refine lv_icmp_lt (tgt := 72) hx hb dX2_bringDrawn_62 (by decide) (fun c_10 => ?_) (fun c_10 => ?_)
    · replace hf := it_t hf c_10
      refine lv_iload hx hb dX2_bringDrawn_72 (lv_at hl 0 rfl) ?_
      exact t_X2_bringDrawn_j74 C0 hXs hf H locs ls hP hD hS (lv_sub hl [] rfl)
    · replace hf := it_f hf c_10
      refine lv_iload hx hb dX2_bringDrawn_65 (lv_at hl 0 rfl) ?_
      refine lv_iconst (v := 1) hx hb dX2_bringDrawn_67 (by decide) ?_
      refine lv_iadd hx hb dX2_bringDrawn_68 ?_
      refine lv_goto (tgt := 74) hx hb dX2_bringDrawn_69 (by decide) ?_
      exact t_X2_bringDrawn_j74 C0 hXs hf H locs ls hP hD hS (lv_sub hl [] rfl)
  · replace hf := it_f hf c_2
    refine lv_iconst (v := 0) hx hb dX2_bringDrawn_12 (by decide) ?_
    cases hf
    exact W.iret hx hb hr (fun t ht hW => ⟨⟨_, (), rfl, rfl, by rw [ht]; exact hP, va_K.moved hW.alike hK, hD⟩, hS.F ht⟩) hS.2.2 dX2_bringDrawn_13
set_option maxHeartbeats 4000000 in
set_option maxRecDepth 100000 in
theorem c_X2_bringDrawn (l : Launch) (dC : Nat → ClassId) (dI : Nat → Nat → Nat) (cyI cyJ cyZ : ClassId) (qB q_twos q_outs qC q_states q_lastMet : Nat) (sz N : Nat) (cSize : Int32) (cMeet : Int32) (cChg : Int32) (cSeed : Int32) (outs : Nat → Int32) (states : Nat → Int32) (lastMet : Nat → Int32) (bCount : Int32) (r9 : Int32) (cMeet9 : Int32) (cChg9 : Int32) (cSeed9 : Int32) (states9 : Nat → Int32) (lastMet9 : Nat → Int32) (hf : f_X2_bringDrawn N cSize cMeet cChg cSeed outs states lastMet = some (r9, cMeet9, cChg9, cSeed9, states9, lastMet9)) : Met l yX2_bringDrawn wsX2_bringDrawn rm_X2_bringDrawn (Pz dC dI cyI cyJ cyZ [.ref qC, .ref qB] sz (w_X2_bringDrawn cyI cyJ cyZ qB q_twos q_outs qC q_states q_lastMet bCount cSize cMeet cChg cSeed outs states lastMet) X0) (Qzi dC dI cyI cyJ cyZ (va_A (w_X2_bringDrawn cyI cyJ cyZ qB q_twos q_outs qC q_states q_lastMet bCount cSize cMeet cChg cSeed outs states lastMet) sz) (w_X2_bringDrawn cyI cyJ cyZ qB q_twos q_outs qC q_states q_lastMet bCount cSize cMeet9 cChg9 cSeed9 outs states9 lastMet9) r9) 0 0 (va_A (w_X2_bringDrawn cyI cyJ cyZ qB q_twos q_outs qC q_states q_lastMet bCount cSize cMeet cChg cSeed outs states lastMet) sz) := by
  refine Met_of (cc := cX2_bringDrawn) (maxL := 6) (ret := (some .int)) (by decide) rfl (Nat.le_of_ble_eq_true rfl) ?_
  intro p e s m args below meth c ls C0 hsz hXs hP hD hS hl
  exact t_X2_bringDrawn C0 hXs hf s.heap [] ls hP hD hS hl
abbrev w_X2_waitOf (cyI cyJ cyZ : ClassId) (qC q_states q_lastMet : Nat) (cSize : Int32) (cMeet : Int32) (cChg : Int32) (cSeed : Int32) (lastMet : Nat → Int32) : va_W := [(qC, .inr (1, [.ref q_states, .ref q_lastMet, .int cSize, .int cMeet, .int cChg, .int cSeed])), (q_lastMet, .inl (cyI, 36, .inl lastMet))]
abbrev rm_X2_waitOf : Room := { frames := 0, cells := 0, slots := 0, locals := 0 }
theorem hn_X2_waitOf_X2 : ∀ w ∈ wsX20, w ∈ wsX2_waitOf := fun _ h => List.mem_cons_of_mem _ (List.mem_append_right _ h)
def f_X2_waitOf (N : Nat) (x1 : Int32) (x2 : Int32) (cMeet : Int32) (lastMet : Nat → Int32) : Option (Int32) :=
  gd (inb ((x1 * 6) + x2) 36) (some (cMeet - (lastMet ((x1 * 6) + x2).toNatClampNeg)))
set_option maxHeartbeats 4000000 in
set_option maxRecDepth 100000 in
theorem t_X2_waitOf (C0 : Cx p s m args meth c cX2_waitOf (some .int) 3 RX2 wsX2_waitOf A dC dI cyI cyJ cyZ) {qC q_states q_lastMet : Nat} (hXs : X0 A s) {N : Nat} {x1 : Int32} {x2 : Int32} {cMeet : Int32} {lastMet : Nat → Int32} {cSize : Int32} {cChg : Int32} {cSeed : Int32} {r9 : Int32} (hf : f_X2_waitOf N x1 x2 cMeet lastMet = some r9) (H : Heap) (locs : List Loc) (ls : Array Slot) (hP : va_P (dC, dI) vwCl (w_X2_waitOf cyI cyJ cyZ qC q_states q_lastMet cSize cMeet cChg cSeed lastMet) H) (hD : va_D A (w_X2_waitOf cyI cyJ cyZ qC q_states q_lastMet cSize cMeet cChg cSeed lastMet)) (hS : va_S A s.heap H locs) (hl : lv_has ls 3 [(0, .ref qC), (1, .int x1), (2, .int x2)]) : W p l e rm_X2_waitOf s m args below meth c H locs 0 0 (MQ below (Qzi dC dI cyI cyJ cyZ A (w_X2_waitOf cyI cyJ cyZ qC q_states q_lastMet cSize cMeet cChg cSeed lastMet) r9) args s 0 0 A) (F0 m 0 ls []) := by
  have C1 := C0
  obtain ⟨hx, hb, hr, hlocks, hml, hown, hts, hA, hK⟩ := C1
  unfold f_X2_waitOf at hf
  refine lv_aload_n hx hb dX2_waitOf_0 rfl (lv_at hl 0 rfl) ?_
  refine va_get (D := (dC, dI)) (ci := 1) (v := .int cMeet) (C := RX2) (T := TX2) (N := 6) hx hb hts hn_X2_waitOf_X2 hown hK hP 0 rfl rfl 3 (by decide) (hts (.fieldLink RX2 31 "MetAgents$Crowd" "meetings" "I") (List.mem_of_getElem? (i := 1) rfl)) (fun _ h9 => h9) rfl dX2_waitOf_1 ?_
  refine lv_aload_n hx hb dX2_waitOf_4 rfl (lv_at hl 0 rfl) ?_
  refine va_get (D := (dC, dI)) (ci := 1) (v := .ref q_lastMet) (C := RX2) (T := TX2) (N := 6) hx hb hts hn_X2_waitOf_X2 hown hK hP 0 rfl rfl 1 (by decide) (hts (.fieldLink RX2 15 "MetAgents$Crowd" "lastMet" "[I") (List.mem_of_getElem? (i := 2) rfl)) (fun _ h9 => h9) rfl dX2_waitOf_5 ?_
  refine lv_iload_n hx hb dX2_waitOf_8 rfl (lv_at hl 1 rfl) ?_
  refine lv_bipush (v := 6) hx hb dX2_waitOf_9 (by decide) ?_
  refine lv_imul hx hb dX2_waitOf_11 ?_
  refine lv_iload_n hx hb dX2_waitOf_12 rfl (lv_at hl 2 rfl) ?_
  refine lv_iadd hx hb dX2_waitOf_13 ?_
  obtain ⟨h_1, hf⟩ := gd_el hf
  refine va_iald hx hb hK hP 1 0 rfl rfl (inb_in h_1) dX2_waitOf_14 ?_
  refine lv_isub hx hb dX2_waitOf_15 ?_
  cases hf
  exact W.iret hx hb hr (fun t ht hW => ⟨⟨_, (), rfl, rfl, by rw [ht]; exact hP, va_K.moved hW.alike hK, hD⟩, hS.F ht⟩) hS.2.2 dX2_waitOf_16
set_option maxHeartbeats 4000000 in
set_option maxRecDepth 100000 in
theorem c_X2_waitOf (l : Launch) (dC : Nat → ClassId) (dI : Nat → Nat → Nat) (cyI cyJ cyZ : ClassId) (qC q_states q_lastMet : Nat) (sz N : Nat) (x1 : Int32) (x2 : Int32) (cMeet : Int32) (lastMet : Nat → Int32) (cSize : Int32) (cChg : Int32) (cSeed : Int32) (r9 : Int32) (hf : f_X2_waitOf N x1 x2 cMeet lastMet = some r9) : Met l yX2_waitOf wsX2_waitOf rm_X2_waitOf (Pz dC dI cyI cyJ cyZ [.ref qC, .int x1, .int x2] sz (w_X2_waitOf cyI cyJ cyZ qC q_states q_lastMet cSize cMeet cChg cSeed lastMet) X0) (Qzi dC dI cyI cyJ cyZ (va_A (w_X2_waitOf cyI cyJ cyZ qC q_states q_lastMet cSize cMeet cChg cSeed lastMet) sz) (w_X2_waitOf cyI cyJ cyZ qC q_states q_lastMet cSize cMeet cChg cSeed lastMet) r9) 0 0 (va_A (w_X2_waitOf cyI cyJ cyZ qC q_states q_lastMet cSize cMeet cChg cSeed lastMet) sz) := by
  refine Met_of (cc := cX2_waitOf) (maxL := 3) (ret := (some .int)) (by decide) rfl (Nat.le_of_ble_eq_true rfl) ?_
  intro p e s m args below meth c ls C0 hsz hXs hP hD hS hl
  exact t_X2_waitOf C0 hXs hf s.heap [] ls hP hD hS hl
abbrev w_X2_isAbove (cyI cyJ cyZ : ClassId) (qC q_states q_lastMet : Nat) (cSize : Int32) (cMeet : Int32) (cChg : Int32) (cSeed : Int32) (lastMet : Nat → Int32) : va_W := [(qC, .inr (1, [.ref q_states, .ref q_lastMet, .int cSize, .int cMeet, .int cChg, .int cSeed])), (q_lastMet, .inl (cyI, 36, .inl lastMet))]
abbrev rm_X2_isAbove : Room := { frames := 1, cells := 0, slots := 0, locals := 22 }
def f_X2_isAbove (N : Nat) (x1 : Int32) (x2 : Int32) (x3 : Int32) (cMeet : Int32) (lastMet : Nat → Int32) : Option (Int32) :=
  (if x1 = x2 then some 0 else bd1 (f_X2_waitOf N x1 x2 cMeet lastMet) (fun r_2 => (if r_2 ≤ x3 then some 0 else some 1)))
set_option maxHeartbeats 4000000 in
set_option maxRecDepth 100000 in
theorem t_X2_isAbove (C0 : Cx p s m args meth c cX2_isAbove (some .boolean) 4 RX2 wsX2_isAbove A dC dI cyI cyJ cyZ) {qC q_states q_lastMet : Nat} (hXs : X0 A s) {N : Nat} {x1 : Int32} {x2 : Int32} {x3 : Int32} {cMeet : Int32} {lastMet : Nat → Int32} {cSize : Int32} {cChg : Int32} {cSeed : Int32} {r9 : Int32} (hf : f_X2_isAbove N x1 x2 x3 cMeet lastMet = some r9) (H : Heap) (locs : List Loc) (ls : Array Slot) (hP : va_P (dC, dI) vwCl (w_X2_isAbove cyI cyJ cyZ qC q_states q_lastMet cSize cMeet cChg cSeed lastMet) H) (hD : va_D A (w_X2_isAbove cyI cyJ cyZ qC q_states q_lastMet cSize cMeet cChg cSeed lastMet)) (hS : va_S A s.heap H locs) (hl : lv_has ls 4 [(0, .ref qC), (1, .int x1), (2, .int x2), (3, .int x3)]) : W p l e rm_X2_isAbove s m args below meth c H locs 0 0 (MQ below (Qzi dC dI cyI cyJ cyZ A (w_X2_isAbove cyI cyJ cyZ qC q_states q_lastMet cSize cMeet cChg cSeed lastMet) r9) args s 0 0 A) (F0 m 0 ls []) := by
  have C1 := C0
  obtain ⟨hx, hb, hr, hlocks, hml, hown, hts, hA, hK⟩ := C1
  unfold f_X2_isAbove at hf
  refine lv_iload_n hx hb dX2_isAbove_0 rfl (lv_at hl 1 rfl) ?_
  refine lv_iload_n hx hb dX2_isAbove_1 rfl (lv_at hl 2 rfl) ?_
  refine lv_icmp_eq (tgt := 19) hx hb dX2_isAbove_2 (by decide) (fun c_1 => ?_) (fun c_1 => ?_)
  · replace hf := it_t hf c_1
    refine lv_iconst (v := 0) hx hb dX2_isAbove_19 (by decide) ?_
    cases hf
    exact W.zret hx hb hr rfl (fun t ht hW => ⟨⟨_, (), rfl, rfl, by rw [ht]; exact hP, va_K.moved hW.alike hK, hD⟩, hS.F ht⟩) hS.2.2 dX2_isAbove_20
  · replace hf := it_f hf c_1
    refine lv_aload_n hx hb dX2_isAbove_5 rfl (lv_at hl 0 rfl) ?_
    refine lv_iload_n hx hb dX2_isAbove_6 rfl (lv_at hl 1 rfl) ?_
    refine lv_iload_n hx hb dX2_isAbove_7 rfl (lv_at hl 2 rfl) ?_
    obtain ⟨r_2, hc, hf⟩ := bd1_el hf
    refine cl_i (wc := (w_X2_waitOf cyI cyJ cyZ qC q_states q_lastMet cSize cMeet cChg cSeed lastMet)) (wr := []) (w1 := (w_X2_waitOf cyI cyJ cyZ qC q_states q_lastMet cSize cMeet cChg cSeed lastMet)) (w2 := (w_X2_isAbove cyI cyJ cyZ qC q_states q_lastMet cSize cMeet cChg cSeed lastMet)) C0 (rn_V (As := [.int x1, .int x2]) (rest := []) (wc := (w_X2_waitOf cyI cyJ cyZ qC q_states q_lastMet cSize cMeet cChg cSeed lastMet)) (X := X0) C0 (c_X2_waitOf l dC dI cyI cyJ cyZ qC q_states q_lastMet H.size N x1 x2 cMeet lastMet cSize cChg cSeed r_2 hc) (cwV 2 hts gX2_isAbove_X2_waitOf rfl rfl rfl (by decide +kernel) ⟨Nat.le_of_ble_eq_true rfl, Nat.le_of_ble_eq_true rfl⟩) X0_car trivial hP hD hS [0, 1] rfl rfl 0 1 rfl rfl rfl hl.1 rfl (Nat.le_of_ble_eq_true rfl) dX2_isAbove_8 ⟨Nat.le_of_ble_eq_true rfl, Nat.le_of_ble_eq_true rfl⟩) hP hD hS [0, 1] [] [0, 1] rfl rfl rfl (by decide) rfl rfl (fun H locs hP hD hS => ?_)
    refine lv_iload_n hx hb dX2_isAbove_11 rfl (lv_at hl 3 rfl) ?_
    refine lv_icmp_le (tgt := 19) hx hb dX2_isAbove_12 (by decide) (fun c_3 => ?_) (fun c_3 => ?_)
    · replace hf := it_t hf c_3
      refine lv_iconst (v := 0) hx hb dX2_isAbove_19 (by decide) ?_
      cases hf
      exact W.zret hx hb hr rfl (fun t ht hW => ⟨⟨_, (), rfl, rfl, by rw [ht]; exact hP, va_K.moved hW.alike hK, hD⟩, hS.F ht⟩) hS.2.2 dX2_isAbove_20
    · replace hf := it_f hf c_3
      refine lv_iconst (v := 1) hx hb dX2_isAbove_15 (by decide) ?_
      refine lv_goto (tgt := 20) hx hb dX2_isAbove_16 (by decide) ?_
      cases hf
      exact W.zret hx hb hr rfl (fun t ht hW => ⟨⟨_, (), rfl, rfl, by rw [ht]; exact hP, va_K.moved hW.alike hK, hD⟩, hS.F ht⟩) hS.2.2 dX2_isAbove_20
set_option maxHeartbeats 4000000 in
set_option maxRecDepth 100000 in
theorem c_X2_isAbove (l : Launch) (dC : Nat → ClassId) (dI : Nat → Nat → Nat) (cyI cyJ cyZ : ClassId) (qC q_states q_lastMet : Nat) (sz N : Nat) (x1 : Int32) (x2 : Int32) (x3 : Int32) (cMeet : Int32) (lastMet : Nat → Int32) (cSize : Int32) (cChg : Int32) (cSeed : Int32) (r9 : Int32) (hf : f_X2_isAbove N x1 x2 x3 cMeet lastMet = some r9) : Met l yX2_isAbove wsX2_isAbove rm_X2_isAbove (Pz dC dI cyI cyJ cyZ [.ref qC, .int x1, .int x2, .int x3] sz (w_X2_isAbove cyI cyJ cyZ qC q_states q_lastMet cSize cMeet cChg cSeed lastMet) X0) (Qzi dC dI cyI cyJ cyZ (va_A (w_X2_isAbove cyI cyJ cyZ qC q_states q_lastMet cSize cMeet cChg cSeed lastMet) sz) (w_X2_isAbove cyI cyJ cyZ qC q_states q_lastMet cSize cMeet cChg cSeed lastMet) r9) 0 0 (va_A (w_X2_isAbove cyI cyJ cyZ qC q_states q_lastMet cSize cMeet cChg cSeed lastMet) sz) := by
  refine Met_of (cc := cX2_isAbove) (maxL := 4) (ret := (some .boolean)) (by decide) rfl (Nat.le_of_ble_eq_true rfl) ?_
  intro p e s m args below meth c ls C0 hsz hXs hP hD hS hl
  exact t_X2_isAbove C0 hXs hf s.heap [] ls hP hD hS hl
abbrev w_X2_howManyAbove (cyI cyJ cyZ : ClassId) (qC q_states q_lastMet : Nat) (cSize : Int32) (cMeet : Int32) (cChg : Int32) (cSeed : Int32) (lastMet : Nat → Int32) : va_W := [(qC, .inr (1, [.ref q_states, .ref q_lastMet, .int cSize, .int cMeet, .int cChg, .int cSeed])), (q_lastMet, .inl (cyI, 36, .inl lastMet))]
abbrev rm_X2_howManyAbove : Room := { frames := 2, cells := 0, slots := 0, locals := 45 }
theorem hn_X2_howManyAbove_X2 : ∀ w ∈ wsX20, w ∈ wsX2_howManyAbove := fun _ h => List.mem_cons_of_mem _ (List.mem_append_right _ h)
def f_X2_howManyAbove_b15 (N : Nat) (x1 : Int32) (x3 : Int32) (cSize : Int32) (cMeet : Int32) (lastMet : Nat → Int32) (x2 : Int32) (x4 : Int32) : Option ((Int32 × Int32) ⊕ (Int32)) :=
  (if cSize ≤ x4 then some (Sum.inr x2) else bd1 (f_X2_isAbove N x3 x4 x1 cMeet lastMet) (fun r_3 => (if r_3 = 0 then nm (x4 + 1) (fun x4_5 => some (Sum.inl (x2, x4_5))) else nm (x2 + 1) (fun x2_6 => nm (x4 + 1) (fun x4_7 => some (Sum.inl (x2_6, x4_7)))))))
set_option maxHeartbeats 4000000 in
set_option maxRecDepth 100000 in
theorem t_X2_howManyAbove_b15 (C0 : Cx p s m args meth c cX2_howManyAbove (some .int) 5 RX2 wsX2_howManyAbove A dC dI cyI cyJ cyZ) {qC q_states q_lastMet : Nat} (hXs : X0 A s) {N : Nat} {x1 : Int32} {x3 : Int32} {cSize : Int32} {cMeet : Int32} {lastMet : Nat → Int32} {x2 : Int32} {x4 : Int32} {cChg : Int32} {cSeed : Int32} {r9 : Int32} {r : (Int32 × Int32) ⊕ (Int32)} (hf : f_X2_howManyAbove_b15 N x1 x3 cSize cMeet lastMet x2 x4 = some r) (Kh : ∀ (zx2 : Int32) (zx4 : Int32), r = Sum.inl (zx2, zx4) → ∀ (H : Heap) (locs : List Loc) (ls : Array Slot), va_P (dC, dI) vwCl (w_X2_howManyAbove cyI cyJ cyZ qC q_states q_lastMet cSize cMeet cChg cSeed lastMet) H → va_D A (w_X2_howManyAbove cyI cyJ cyZ qC q_states q_lastMet cSize cMeet cChg cSeed lastMet) → va_S A s.heap H locs → lv_has ls 5 [(0, .ref qC), (1, .int x1), (2, .int zx2), (3, .int x3), (4, .int zx4)] → W p l e rm_X2_howManyAbove s m args below meth c H locs 0 0 (MQ below (Qzi dC dI cyI cyJ cyZ A (w_X2_howManyAbove cyI cyJ cyZ qC q_states q_lastMet cSize cMeet cChg cSeed lastMet) r9) args s 0 0 A) (F0 m 15 ls [])) (Ke : ∀ (zx2 : Int32), r = Sum.inr zx2 → ∀ (H : Heap) (locs : List Loc) (ls : Array Slot), va_P (dC, dI) vwCl (w_X2_howManyAbove cyI cyJ cyZ qC q_states q_lastMet cSize cMeet cChg cSeed lastMet) H → va_D A (w_X2_howManyAbove cyI cyJ cyZ qC q_states q_lastMet cSize cMeet cChg cSeed lastMet) → va_S A s.heap H locs → lv_has ls 5 [(0, .ref qC), (1, .int x1), (2, .int zx2), (3, .int x3)] → W p l e rm_X2_howManyAbove s m args below meth c H locs 0 0 (MQ below (Qzi dC dI cyI cyJ cyZ A (w_X2_howManyAbove cyI cyJ cyZ qC q_states q_lastMet cSize cMeet cChg cSeed lastMet) r9) args s 0 0 A) (F0 m 44 ls [])) (H : Heap) (locs : List Loc) (ls : Array Slot) (hP : va_P (dC, dI) vwCl (w_X2_howManyAbove cyI cyJ cyZ qC q_states q_lastMet cSize cMeet cChg cSeed lastMet) H) (hD : va_D A (w_X2_howManyAbove cyI cyJ cyZ qC q_states q_lastMet cSize cMeet cChg cSeed lastMet)) (hS : va_S A s.heap H locs) (hl : lv_has ls 5 [(0, .ref qC), (1, .int x1), (2, .int x2), (3, .int x3), (4, .int x4)]) : W p l e rm_X2_howManyAbove s m args below meth c H locs 0 0 (MQ below (Qzi dC dI cyI cyJ cyZ A (w_X2_howManyAbove cyI cyJ cyZ qC q_states q_lastMet cSize cMeet cChg cSeed lastMet) r9) args s 0 0 A) (F0 m 15 ls []) := by
  have C1 := C0
  obtain ⟨hx, hb, hr, hlocks, hml, hown, hts, hA, hK⟩ := C1
  unfold f_X2_howManyAbove_b15 at hf
  refine lv_iload hx hb dX2_howManyAbove_15 (lv_at hl 4 rfl) ?_
  refine lv_aload_n hx hb dX2_howManyAbove_17 rfl (lv_at hl 0 rfl) ?_
  refine va_get (D := (dC, dI)) (ci := 1) (v := .int cSize) (C := RX2) (T := TX2) (N := 6) hx hb hts hn_X2_howManyAbove_X2 hown hK hP 0 rfl rfl 2 (by decide) (hts (.fieldLink RX2 28 "MetAgents$Crowd" "size" "I") (List.mem_of_getElem? (i := 1) rfl)) (fun _ h9 => h9) rfl dX2_howManyAbove_18 ?_
  refine lv_icmp_ge (tgt := 44) hx hb dX2_howManyAbove_21 (by decide) (fun c_2 => ?_) (fun c_2 => ?_)
  · replace hf := it_t hf c_2
    exact Ke _ (Option.some.inj hf).symm H locs ls hP hD hS (lv_sub hl [0, 1, 2, 3] rfl)
  · replace hf := it_f hf c_2
    refine lv_aload_n hx hb dX2_howManyAbove_24 rfl (lv_at hl 0 rfl) ?_
    refine lv_iload_n hx hb dX2_howManyAbove_25 rfl (lv_at hl 3 rfl) ?_
    refine lv_iload hx hb dX2_howManyAbove_26 (lv_at hl 4 rfl) ?_
    refine lv_iload_n hx hb dX2_howManyAbove_28 rfl (lv_at hl 1 rfl) ?_
    obtain ⟨r_3, hc, hf⟩ := bd1_el hf
    refine cl_i (wc := (w_X2_isAbove cyI cyJ cyZ qC q_states q_lastMet cSize cMeet cChg cSeed lastMet)) (wr := []) (w1 := (w_X2_isAbove cyI cyJ cyZ qC q_states q_lastMet cSize cMeet cChg cSeed lastMet)) (w2 := (w_X2_howManyAbove cyI cyJ cyZ qC q_states q_lastMet cSize cMeet cChg cSeed lastMet)) C0 (rn_V (As := [.int x3, .int x4, .int x1]) (rest := []) (wc := (w_X2_isAbove cyI cyJ cyZ qC q_states q_lastMet cSize cMeet cChg cSeed lastMet)) (X := X0) C0 (c_X2_isAbove l dC dI cyI cyJ cyZ qC q_states q_lastMet H.size N x3 x4 x1 cMeet lastMet cSize cChg cSeed r_3 hc) (cwV 3 hts gX2_howManyAbove_X2_isAbove rfl rfl rfl (by decide +kernel) ⟨Nat.le_of_ble_eq_true rfl, Nat.le_of_ble_eq_true rfl⟩) X0_car trivial hP hD hS [0, 1] rfl rfl 0 1 rfl rfl rfl hl.1 rfl (Nat.le_of_ble_eq_true rfl) dX2_howManyAbove_29 ⟨Nat.le_of_ble_eq_true rfl, Nat.le_of_ble_eq_true rfl⟩) hP hD hS [0, 1] [] [0, 1] rfl rfl rfl (by decide) rfl rfl (fun H locs hP hD hS => ?_)
    refine lv_if_eq (tgt := 38) hx hb dX2_howManyAbove_32 (by decide) (fun c_4 => ?_) (fun c_4 => ?_)
    · replace hf := it_t hf c_4
      obtain ⟨x4_5, e_5, hf⟩ := nm_el hf
      refine lv_iinc (v := x4_5) (lv' := [(4, .int x4_5), (0, .ref qC), (1, .int x1), (2, .int x2), (3, .int x3)]) hx hb dX2_howManyAbove_38 hl (k := 4) rfl (by rw [e_5]; rfl) (by decide) rfl (fun ls hl => ?_)
      refine lv_goto (tgt := 15) hx hb dX2_howManyAbove_41 (by decide) ?_
      exact Kh _ _ (Option.some.inj hf).symm H locs ls hP hD hS (lv_sub hl [1, 2, 3, 4, 0] rfl)
    · replace hf := it_f hf c_4
      obtain ⟨x2_6, e_6, hf⟩ := nm_el hf
      refine lv_iinc (v := x2_6) (lv' := [(2, .int x2_6), (0, .ref qC), (1, .int x1), (3, .int x3), (4, .int x4)]) hx hb dX2_howManyAbove_35 hl (k := 2) rfl (by rw [e_6]; rfl) (by decide) rfl (fun ls hl => ?_)
      obtain ⟨x4_7, e_7, hf⟩ := nm_el hf
      refine lv_iinc (v := x4_7) (lv' := [(4, .int x4_7), (2, .int x2_6), (0, .ref qC), (1, .int x1), (3, .int x3)]) hx hb dX2_howManyAbove_38 hl (k := 4) rfl (by rw [e_7]; rfl) (by decide) rfl (fun ls hl => ?_)
      refine lv_goto (tgt := 15) hx hb dX2_howManyAbove_41 (by decide) ?_
      exact Kh _ _ (Option.some.inj hf).symm H locs ls hP hD hS (lv_sub hl [2, 3, 1, 4, 0] rfl)
set_option maxHeartbeats 4000000 in
set_option maxRecDepth 100000 in
theorem l_X2_howManyAbove_b15 (C0 : Cx p s m args meth c cX2_howManyAbove (some .int) 5 RX2 wsX2_howManyAbove A dC dI cyI cyJ cyZ) {qC q_states q_lastMet : Nat} (hXs : X0 A s) {N : Nat} {x1 : Int32} {x3 : Int32} {cSize : Int32} {cMeet : Int32} {lastMet : Nat → Int32} {cChg : Int32} {cSeed : Int32} {r9 : Int32} {z : Int32} (Ke : ∀ (zx2 : Int32), z = zx2 → ∀ (H : Heap) (locs : List Loc) (ls : Array Slot), va_P (dC, dI) vwCl (w_X2_howManyAbove cyI cyJ cyZ qC q_states q_lastMet cSize cMeet cChg cSeed lastMet) H → va_D A (w_X2_howManyAbove cyI cyJ cyZ qC q_states q_lastMet cSize cMeet cChg cSeed lastMet) → va_S A s.heap H locs → lv_has ls 5 [(0, .ref qC), (1, .int x1), (2, .int zx2), (3, .int x3)] → W p l e rm_X2_howManyAbove s m args below meth c H locs 0 0 (MQ below (Qzi dC dI cyI cyJ cyZ A (w_X2_howManyAbove cyI cyJ cyZ qC q_states q_lastMet cSize cMeet cChg cSeed lastMet) r9) args s 0 0 A) (F0 m 44 ls [])) : ∀ (n9 : Nat) (x2 : Int32) (x4 : Int32), loopN (fun (w9 : Int32 × Int32) => f_X2_howManyAbove_b15 N x1 x3 cSize cMeet lastMet w9.1 w9.2) n9 (x2, x4) = some z → ∀ (H : Heap) (locs : List Loc) (ls : Array Slot), va_P (dC, dI) vwCl (w_X2_howManyAbove cyI cyJ cyZ qC q_states q_lastMet cSize cMeet cChg cSeed lastMet) H → va_D A (w_X2_howManyAbove cyI cyJ cyZ qC q_states q_lastMet cSize cMeet cChg cSeed lastMet) → va_S A s.heap H locs → lv_has ls 5 [(0, .ref qC), (1, .int x1), (2, .int x2), (3, .int x3), (4, .int x4)] → W p l e rm_X2_howManyAbove s m args below meth c H locs 0 0 (MQ below (Qzi dC dI cyI cyJ cyZ A (w_X2_howManyAbove cyI cyJ cyZ qC q_states q_lastMet cSize cMeet cChg cSeed lastMet) r9) args s 0 0 A) (F0 m 15 ls []) := by
  intro n9
  induction n9 with
  | zero => intro _ _ h; cases h
  | succ n9 ih =>
    intro x2 x4 h H locs ls hP hD hS hl
    rcases loopN_el h with ⟨y9, h1, h2⟩ | h1
    · exact t_X2_howManyAbove_b15 C0 hXs  h1 (fun zx2 zx4 q9 H locs ls hP hD hS hl => ih zx2 zx4 (by cases q9; exact h2) H locs ls hP hD hS hl) (fun _ q9 => by cases q9) H locs ls hP hD hS hl
    · exact t_X2_howManyAbove_b15 C0 hXs  h1 (fun _ _ q9 => by cases q9) (fun ex2 q9 => Ke ex2 (by cases q9; rfl)) H locs ls hP hD hS hl
def f_X2_howManyAbove_b4 (N : Nat) (x1 : Int32) (cSize : Int32) (cMeet : Int32) (lastMet : Nat → Int32) (x2 : Int32) (x3 : Int32) : Option ((Int32 × Int32) ⊕ (Int32)) :=
  (if cSize ≤ x3 then some (Sum.inr x2) else bd1 (loopN (fun (w9 : Int32 × Int32) => f_X2_howManyAbove_b15 N x1 x3 cSize cMeet lastMet w9.1 w9.2) N (x2, 0)) (fun x2_8 => nm (x3 + 1) (fun x3_9 => some (Sum.inl (x2_8, x3_9)))))
set_option maxHeartbeats 4000000 in
set_option maxRecDepth 100000 in
theorem t_X2_howManyAbove_b4 (C0 : Cx p s m args meth c cX2_howManyAbove (some .int) 5 RX2 wsX2_howManyAbove A dC dI cyI cyJ cyZ) {qC q_states q_lastMet : Nat} (hXs : X0 A s) {N : Nat} {x1 : Int32} {cSize : Int32} {cMeet : Int32} {lastMet : Nat → Int32} {x2 : Int32} {x3 : Int32} {cChg : Int32} {cSeed : Int32} {r9 : Int32} {r : (Int32 × Int32) ⊕ (Int32)} (hf : f_X2_howManyAbove_b4 N x1 cSize cMeet lastMet x2 x3 = some r) (Kh : ∀ (zx2 : Int32) (zx3 : Int32), r = Sum.inl (zx2, zx3) → ∀ (H : Heap) (locs : List Loc) (ls : Array Slot), va_P (dC, dI) vwCl (w_X2_howManyAbove cyI cyJ cyZ qC q_states q_lastMet cSize cMeet cChg cSeed lastMet) H → va_D A (w_X2_howManyAbove cyI cyJ cyZ qC q_states q_lastMet cSize cMeet cChg cSeed lastMet) → va_S A s.heap H locs → lv_has ls 5 [(0, .ref qC), (1, .int x1), (2, .int zx2), (3, .int zx3)] → W p l e rm_X2_howManyAbove s m args below meth c H locs 0 0 (MQ below (Qzi dC dI cyI cyJ cyZ A (w_X2_howManyAbove cyI cyJ cyZ qC q_states q_lastMet cSize cMeet cChg cSeed lastMet) r9) args s 0 0 A) (F0 m 4 ls [])) (Ke : ∀ (zx2 : Int32), r = Sum.inr zx2 → ∀ (H : Heap) (locs : List Loc) (ls : Array Slot), va_P (dC, dI) vwCl (w_X2_howManyAbove cyI cyJ cyZ qC q_states q_lastMet cSize cMeet cChg cSeed lastMet) H → va_D A (w_X2_howManyAbove cyI cyJ cyZ qC q_states q_lastMet cSize cMeet cChg cSeed lastMet) → va_S A s.heap H locs → lv_has ls 5 [(2, .int zx2)] → W p l e rm_X2_howManyAbove s m args below meth c H locs 0 0 (MQ below (Qzi dC dI cyI cyJ cyZ A (w_X2_howManyAbove cyI cyJ cyZ qC q_states q_lastMet cSize cMeet cChg cSeed lastMet) r9) args s 0 0 A) (F0 m 50 ls [])) (H : Heap) (locs : List Loc) (ls : Array Slot) (hP : va_P (dC, dI) vwCl (w_X2_howManyAbove cyI cyJ cyZ qC q_states q_lastMet cSize cMeet cChg cSeed lastMet) H) (hD : va_D A (w_X2_howManyAbove cyI cyJ cyZ qC q_states q_lastMet cSize cMeet cChg cSeed lastMet)) (hS : va_S A s.heap H locs) (hl : lv_has ls 5 [(0, .ref qC), (1, .int x1), (2, .int x2), (3, .int x3)]) : W p l e rm_X2_howManyAbove s m args below meth c H locs 0 0 (MQ below (Qzi dC dI cyI cyJ cyZ A (w_X2_howManyAbove cyI cyJ cyZ qC q_states q_lastMet cSize cMeet cChg cSeed lastMet) r9) args s 0 0 A) (F0 m 4 ls []) := by
  have C1 := C0
  obtain ⟨hx, hb, hr, hlocks, hml, hown, hts, hA, hK⟩ := C1
  unfold f_X2_howManyAbove_b4 at hf
  refine lv_iload_n hx hb dX2_howManyAbove_4 rfl (lv_at hl 3 rfl) ?_
  refine lv_aload_n hx hb dX2_howManyAbove_5 rfl (lv_at hl 0 rfl) ?_
  refine va_get (D := (dC, dI)) (ci := 1) (v := .int cSize) (C := RX2) (T := TX2) (N := 6) hx hb hts hn_X2_howManyAbove_X2 hown hK hP 0 rfl rfl 2 (by decide) (hts (.fieldLink RX2 28 "MetAgents$Crowd" "size" "I") (List.mem_of_getElem? (i := 1) rfl)) (fun _ h9 => h9) rfl dX2_howManyAbove_6 ?_
  refine lv_icmp_ge (tgt := 50) hx hb dX2_howManyAbove_9 (by decide) (fun c_1 => ?_) (fun c_1 => ?_)
  · replace hf := it_t hf c_1
    exact Ke _ (Option.some.inj hf).symm H locs ls hP hD hS (lv_sub hl [2] rfl)
  · replace hf := it_f hf c_1
    refine lv_iconst (v := 0) hx hb dX2_howManyAbove_12 (by decide) ?_
    refine lv_istore (lv' := [(4, .int 0), (0, .ref qC), (1, .int x1), (2, .int x2), (3, .int x3)]) hx hb dX2_howManyAbove_13 hl (by decide) rfl (fun ls hl => ?_)
    obtain ⟨x2_8, hlp, hf⟩ := bd1_el hf
    refine l_X2_howManyAbove_b15 C0 hXs (fun x2_8 q9 H locs ls hP hD hS hl => ?_) N _ _ hlp H locs ls hP hD hS (lv_sub hl [1, 2, 3, 4, 0] rfl)
    cases q9
    obtain ⟨x3_9, e_9, hf⟩ := nm_el hf
    refine lv_iinc (v := x3_9) (lv' := [(3, .int x3_9), (0, .ref qC), (1, .int x1), (2, .int x2_8)]) hx hb dX2_howManyAbove_44 hl (k := 3) rfl (by rw [e_9]; rfl) (by decide) rfl (fun ls hl => ?_)
    refine lv_goto (tgt := 4) hx hb dX2_howManyAbove_47 (by decide) ?_
    exact Kh _ _ (Option.some.inj hf).symm H locs ls hP hD hS (lv_sub hl [1, 2, 3, 0] rfl)
set_option maxHeartbeats 4000000 in
set_option maxRecDepth 100000 in
theorem l_X2_howManyAbove_b4 (C0 : Cx p s m args meth c cX2_howManyAbove (some .int) 5 RX2 wsX2_howManyAbove A dC dI cyI cyJ cyZ) {qC q_states q_lastMet : Nat} (hXs : X0 A s) {N : Nat} {x1 : Int32} {cSize : Int32} {cMeet : Int32} {lastMet : Nat → Int32} {cChg : Int32} {cSeed : Int32} {r9 : Int32} {z : Int32} (Ke : ∀ (zx2 : Int32), z = zx2 → ∀ (H : Heap) (locs : List Loc) (ls : Array Slot), va_P (dC, dI) vwCl (w_X2_howManyAbove cyI cyJ cyZ qC q_states q_lastMet cSize cMeet cChg cSeed lastMet) H → va_D A (w_X2_howManyAbove cyI cyJ cyZ qC q_states q_lastMet cSize cMeet cChg cSeed lastMet) → va_S A s.heap H locs → lv_has ls 5 [(2, .int zx2)] → W p l e rm_X2_howManyAbove s m args below meth c H locs 0 0 (MQ below (Qzi dC dI cyI cyJ cyZ A (w_X2_howManyAbove cyI cyJ cyZ qC q_states q_lastMet cSize cMeet cChg cSeed lastMet) r9) args s 0 0 A) (F0 m 50 ls [])) : ∀ (n9 : Nat) (x2 : Int32) (x3 : Int32), loopN (fun (w9 : Int32 × Int32) => f_X2_howManyAbove_b4 N x1 cSize cMeet lastMet w9.1 w9.2) n9 (x2, x3) = some z → ∀ (H : Heap) (locs : List Loc) (ls : Array Slot), va_P (dC, dI) vwCl (w_X2_howManyAbove cyI cyJ cyZ qC q_states q_lastMet cSize cMeet cChg cSeed lastMet) H → va_D A (w_X2_howManyAbove cyI cyJ cyZ qC q_states q_lastMet cSize cMeet cChg cSeed lastMet) → va_S A s.heap H locs → lv_has ls 5 [(0, .ref qC), (1, .int x1), (2, .int x2), (3, .int x3)] → W p l e rm_X2_howManyAbove s m args below meth c H locs 0 0 (MQ below (Qzi dC dI cyI cyJ cyZ A (w_X2_howManyAbove cyI cyJ cyZ qC q_states q_lastMet cSize cMeet cChg cSeed lastMet) r9) args s 0 0 A) (F0 m 4 ls []) := by
  intro n9
  induction n9 with
  | zero => intro _ _ h; cases h
  | succ n9 ih =>
    intro x2 x3 h H locs ls hP hD hS hl
    rcases loopN_el h with ⟨y9, h1, h2⟩ | h1
    · exact t_X2_howManyAbove_b4 C0 hXs  h1 (fun zx2 zx3 q9 H locs ls hP hD hS hl => ih zx2 zx3 (by cases q9; exact h2) H locs ls hP hD hS hl) (fun _ q9 => by cases q9) H locs ls hP hD hS hl
    · exact t_X2_howManyAbove_b4 C0 hXs  h1 (fun _ _ q9 => by cases q9) (fun ex2 q9 => Ke ex2 (by cases q9; rfl)) H locs ls hP hD hS hl
def f_X2_howManyAbove (N : Nat) (x1 : Int32) (cSize : Int32) (cMeet : Int32) (lastMet : Nat → Int32) : Option (Int32) :=
  bd1 (loopN (fun (w9 : Int32 × Int32) => f_X2_howManyAbove_b4 N x1 cSize cMeet lastMet w9.1 w9.2) N (0, 0)) (fun x2_10 => some x2_10)
set_option maxHeartbeats 4000000 in
set_option maxRecDepth 100000 in
theorem t_X2_howManyAbove (C0 : Cx p s m args meth c cX2_howManyAbove (some .int) 5 RX2 wsX2_howManyAbove A dC dI cyI cyJ cyZ) {qC q_states q_lastMet : Nat} (hXs : X0 A s) {N : Nat} {x1 : Int32} {cSize : Int32} {cMeet : Int32} {lastMet : Nat → Int32} {cChg : Int32} {cSeed : Int32} {r9 : Int32} (hf : f_X2_howManyAbove N x1 cSize cMeet lastMet = some r9) (H : Heap) (locs : List Loc) (ls : Array Slot) (hP : va_P (dC, dI) vwCl (w_X2_howManyAbove cyI cyJ cyZ qC q_states q_lastMet cSize cMeet cChg cSeed lastMet) H) (hD : va_D A (w_X2_howManyAbove cyI cyJ cyZ qC q_states q_lastMet cSize cMeet cChg cSeed lastMet)) (hS : va_S A s.heap H locs) (hl : lv_has ls 5 [(0, .ref qC), (1, .int x1)]) : W p l e rm_X2_howManyAbove s m args below meth c H locs 0 0 (MQ below (Qzi dC dI cyI cyJ cyZ A (w_X2_howManyAbove cyI cyJ cyZ qC q_states q_lastMet cSize cMeet cChg cSeed lastMet) r9) args s 0 0 A) (F0 m 0 ls []) := by
  have C1 := C0
  obtain ⟨hx, hb, hr, hlocks, hml, hown, hts, hA, hK⟩ := C1
  unfold f_X2_howManyAbove at hf
  refine lv_iconst (v := 0) hx hb dX2_howManyAbove_0 (by decide) ?_
  refine lv_istore_n (lv' := [(2, .int 0), (0, .ref qC), (1, .int x1)]) hx hb dX2_howManyAbove_1 rfl hl (by decide) rfl (fun ls hl => ?_)
  refine lv_iconst (v := 0) hx hb dX2_howManyAbove_2 (by decide) ?_
  refine lv_istore_n (lv' := [(3, .int 0), (2, .int 0), (0, .ref qC), (1, .int x1)]) hx hb dX2_howManyAbove_3 rfl hl (by decide) rfl (fun ls hl => ?_)
  obtain ⟨x2_10, hlp, hf⟩ := bd1_el hf
  refine l_X2_howManyAbove_b4 C0 hXs (fun x2_10 q9 H locs ls hP hD hS hl => ?_) N _ _ hlp H locs ls hP hD hS (lv_sub hl [2, 3, 1, 0] rfl)
  cases q9
  refine lv_iload_n hx hb dX2_howManyAbove_50 rfl (lv_at hl 0 rfl) ?_
  cases hf
  exact W.iret hx hb hr (fun t ht hW => ⟨⟨_, (), rfl, rfl, by rw [ht]; exact hP, va_K.moved hW.alike hK, hD⟩, hS.F ht⟩) hS.2.2 dX2_howManyAbove_51
set_option maxHeartbeats 4000000 in
set_option maxRecDepth 100000 in
theorem c_X2_howManyAbove (l : Launch) (dC : Nat → ClassId) (dI : Nat → Nat → Nat) (cyI cyJ cyZ : ClassId) (qC q_states q_lastMet : Nat) (sz N : Nat) (x1 : Int32) (cSize : Int32) (cMeet : Int32) (lastMet : Nat → Int32) (cChg : Int32) (cSeed : Int32) (r9 : Int32) (hf : f_X2_howManyAbove N x1 cSize cMeet lastMet = some r9) : Met l yX2_howManyAbove wsX2_howManyAbove rm_X2_howManyAbove (Pz dC dI cyI cyJ cyZ [.ref qC, .int x1] sz (w_X2_howManyAbove cyI cyJ cyZ qC q_states q_lastMet cSize cMeet cChg cSeed lastMet) X0) (Qzi dC dI cyI cyJ cyZ (va_A (w_X2_howManyAbove cyI cyJ cyZ qC q_states q_lastMet cSize cMeet cChg cSeed lastMet) sz) (w_X2_howManyAbove cyI cyJ cyZ qC q_states q_lastMet cSize cMeet cChg cSeed lastMet) r9) 0 0 (va_A (w_X2_howManyAbove cyI cyJ cyZ qC q_states q_lastMet cSize cMeet cChg cSeed lastMet) sz) := by
  refine Met_of (cc := cX2_howManyAbove) (maxL := 5) (ret := (some .int)) (by decide) rfl (Nat.le_of_ble_eq_true rfl) ?_
  intro p e s m args below meth c ls C0 hsz hXs hP hD hS hl
  exact t_X2_howManyAbove C0 hXs hf s.heap [] ls hP hD hS hl
abbrev w_X2_firstAbove (cyI cyJ cyZ : ClassId) (qC q_states q_lastMet : Nat) (cSize : Int32) (cMeet : Int32) (cChg : Int32) (cSeed : Int32) (lastMet : Nat → Int32) : va_W := [(qC, .inr (1, [.ref q_states, .ref q_lastMet, .int cSize, .int cMeet, .int cChg, .int cSeed])), (q_lastMet, .inl (cyI, 36, .inl lastMet))]
abbrev rm_X2_firstAbove : Room := { frames := 2, cells := 0, slots := 0, locals := 45 }
theorem hn_X2_firstAbove_X2 : ∀ w ∈ wsX20, w ∈ wsX2_firstAbove := fun _ h => List.mem_cons_of_mem _ (List.mem_append_right _ h)
def f_X2_firstAbove_b12 (N : Nat) (x1 : Int32) (x2 : Int32) (cSize : Int32) (cMeet : Int32) (lastMet : Nat → Int32) (x3 : Int32) : Option ((Int32) ⊕ ((Int32) ⊕ (Unit))) :=
  (if cSize ≤ x3 then some (Sum.inr (Sum.inr ())) else bd1 (f_X2_isAbove N x2 x3 x1 cMeet lastMet) (fun r_3 => (if r_3 = 0 then nm (x3 + 1) (fun x3_5 => some (Sum.inl x3_5)) else some (Sum.inr (Sum.inl ((10 * x2) + x3))))))
set_option maxHeartbeats 4000000 in
set_option maxRecDepth 100000 in
theorem t_X2_firstAbove_b12 (C0 : Cx p s m args meth c cX2_firstAbove (some .int) 4 RX2 wsX2_firstAbove A dC dI cyI cyJ cyZ) {qC q_states q_lastMet : Nat} (hXs : X0 A s) {N : Nat} {x1 : Int32} {x2 : Int32} {cSize : Int32} {cMeet : Int32} {lastMet : Nat → Int32} {x3 : Int32} {cChg : Int32} {cSeed : Int32} {r9 : Int32} {r : (Int32) ⊕ ((Int32) ⊕ (Unit))} (hf : f_X2_firstAbove_b12 N x1 x2 cSize cMeet lastMet x3 = some r) (Kh : ∀ (zx3 : Int32), r = Sum.inl zx3 → ∀ (H : Heap) (locs : List Loc) (ls : Array Slot), va_P (dC, dI) vwCl (w_X2_firstAbove cyI cyJ cyZ qC q_states q_lastMet cSize cMeet cChg cSeed lastMet) H → va_D A (w_X2_firstAbove cyI cyJ cyZ qC q_states q_lastMet cSize cMeet cChg cSeed lastMet) → va_S A s.heap H locs → lv_has ls 4 [(0, .ref qC), (1, .int x1), (2, .int x2), (3, .int zx3)] → W p l e rm_X2_firstAbove s m args below meth c H locs 0 0 (MQ below (Qzi dC dI cyI cyJ cyZ A (w_X2_firstAbove cyI cyJ cyZ qC q_states q_lastMet cSize cMeet cChg cSeed lastMet) r9) args s 0 0 A) (F0 m 12 ls [])) (Ke : r = Sum.inr (Sum.inr ()) → ∀ (H : Heap) (locs : List Loc) (ls : Array Slot), va_P (dC, dI) vwCl (w_X2_firstAbove cyI cyJ cyZ qC q_states q_lastMet cSize cMeet cChg cSeed lastMet) H → va_D A (w_X2_firstAbove cyI cyJ cyZ qC q_states q_lastMet cSize cMeet cChg cSeed lastMet) → va_S A s.heap H locs → lv_has ls 4 [(0, .ref qC), (1, .int x1), (2, .int x2)] → W p l e rm_X2_firstAbove s m args below meth c H locs 0 0 (MQ below (Qzi dC dI cyI cyJ cyZ A (w_X2_firstAbove cyI cyJ cyZ qC q_states q_lastMet cSize cMeet cChg cSeed lastMet) r9) args s 0 0 A) (F0 m 43 ls [])) (Kr : ∀ x9 : Int32, r = Sum.inr (Sum.inl x9) → x9 = r9) (H : Heap) (locs : List Loc) (ls : Array Slot) (hP : va_P (dC, dI) vwCl (w_X2_firstAbove cyI cyJ cyZ qC q_states q_lastMet cSize cMeet cChg cSeed lastMet) H) (hD : va_D A (w_X2_firstAbove cyI cyJ cyZ qC q_states q_lastMet cSize cMeet cChg cSeed lastMet)) (hS : va_S A s.heap H locs) (hl : lv_has ls 4 [(0, .ref qC), (1, .int x1), (2, .int x2), (3, .int x3)]) : W p l e rm_X2_firstAbove s m args below meth c H locs 0 0 (MQ below (Qzi dC dI cyI cyJ cyZ A (w_X2_firstAbove cyI cyJ cyZ qC q_states q_lastMet cSize cMeet cChg cSeed lastMet) r9) args s 0 0 A) (F0 m 12 ls []) := by
  have C1 := C0
  obtain ⟨hx, hb, hr, hlocks, hml, hown, hts, hA, hK⟩ := C1
  unfold f_X2_firstAbove_b12 at hf
  refine lv_iload_n hx hb dX2_firstAbove_12 rfl (lv_at hl 3 rfl) ?_
  refine lv_aload_n hx hb dX2_firstAbove_13 rfl (lv_at hl 0 rfl) ?_
  refine va_get (D := (dC, dI)) (ci := 1) (v := .int cSize) (C := RX2) (T := TX2) (N := 6) hx hb hts hn_X2_firstAbove_X2 hown hK hP 0 rfl rfl 2 (by decide) (hts (.fieldLink RX2 28 "MetAgents$Crowd" "size" "I") (List.mem_of_getElem? (i := 1) rfl)) (fun _ h9 => h9) rfl dX2_firstAbove_14 ?_
  refine lv_icmp_ge (tgt := 43) hx hb dX2_firstAbove_17 (by decide) (fun c_2 => ?_) (fun c_2 => ?_)
  · replace hf := it_t hf c_2
    exact Ke  (Option.some.inj hf).symm H locs ls hP hD hS (lv_sub hl [0, 1, 2] rfl)
  · replace hf := it_f hf c_2
    refine lv_aload_n hx hb dX2_firstAbove_20 rfl (lv_at hl 0 rfl) ?_
    refine lv_iload_n hx hb dX2_firstAbove_21 rfl (lv_at hl 2 rfl) ?_
    refine lv_iload_n hx hb dX2_firstAbove_22 rfl (lv_at hl 3 rfl) ?_
    refine lv_iload_n hx hb dX2_firstAbove_23 rfl (lv_at hl 1 rfl) ?_
    obtain ⟨r_3, hc, hf⟩ := bd1_el hf
    refine cl_i (wc := (w_X2_isAbove cyI cyJ cyZ qC q_states q_lastMet cSize cMeet cChg cSeed lastMet)) (wr := []) (w1 := (w_X2_isAbove cyI cyJ cyZ qC q_states q_lastMet cSize cMeet cChg cSeed lastMet)) (w2 := (w_X2_firstAbove cyI cyJ cyZ qC q_states q_lastMet cSize cMeet cChg cSeed lastMet)) C0 (rn_V (As := [.int x2, .int x3, .int x1]) (rest := []) (wc := (w_X2_isAbove cyI cyJ cyZ qC q_states q_lastMet cSize cMeet cChg cSeed lastMet)) (X := X0) C0 (c_X2_isAbove l dC dI cyI cyJ cyZ qC q_states q_lastMet H.size N x2 x3 x1 cMeet lastMet cSize cChg cSeed r_3 hc) (cwV 3 hts gX2_firstAbove_X2_isAbove rfl rfl rfl (by decide +kernel) ⟨Nat.le_of_ble_eq_true rfl, Nat.le_of_ble_eq_true rfl⟩) X0_car trivial hP hD hS [0, 1] rfl rfl 0 1 rfl rfl rfl hl.1 rfl (Nat.le_of_ble_eq_true rfl) dX2_firstAbove_24 ⟨Nat.le_of_ble_eq_true rfl, Nat.le_of_ble_eq_true rfl⟩) hP hD hS [0, 1] [] [0, 1] rfl rfl rfl (by decide) rfl rfl (fun H locs hP hD hS => ?_)
    refine lv_if_eq (tgt := 37) hx hb dX2_firstAbove_27 (by decide) (fun c_4 => ?_) (fun c_4 => ?_)
    · replace hf := it_t hf c_4
      obtain ⟨x3_5, e_5, hf⟩ := nm_el hf
      refine lv_iinc (v := x3_5) (lv' := [(3, .int x3_5), (0, .ref qC), (1, .int x1), (2, .int x2)]) hx hb dX2_firstAbove_37 hl (k := 3) rfl (by rw [e_5]; rfl) (by decide) rfl (fun ls hl => ?_)
      refine lv_goto (tgt := 12) hx hb dX2_firstAbove_40 (by decide) ?_
      exact Kh _ (Option.some.inj hf).symm H locs ls hP hD hS (lv_sub hl [1, 2, 3, 0] rfl)
    · replace hf := it_f hf c_4
      refine lv_bipush (v := 10) hx hb dX2_firstAbove_30 (by decide) ?_
      refine lv_iload_n hx hb dX2_firstAbove_32 rfl (lv_at hl 2 rfl) ?_
      refine lv_imul hx hb dX2_firstAbove_33 ?_
      refine lv_iload_n hx hb dX2_firstAbove_34 rfl (lv_at hl 3 rfl) ?_
      refine lv_iadd hx hb dX2_firstAbove_35 ?_
      cases Kr _ (Option.some.inj hf).symm
      exact W.iret hx hb hr (fun t ht hW => ⟨⟨_, (), rfl, rfl, by rw [ht]; exact hP, va_K.moved hW.alike hK, hD⟩, hS.F ht⟩) hS.2.2 dX2_firstAbove_36
set_option maxHeartbeats 4000000 in
set_option maxRecDepth 100000 in
theorem l_X2_firstAbove_b12 (C0 : Cx p s m args meth c cX2_firstAbove (some .int) 4 RX2 wsX2_firstAbove A dC dI cyI cyJ cyZ) {qC q_states q_lastMet : Nat} (hXs : X0 A s) {N : Nat} {x1 : Int32} {x2 : Int32} {cSize : Int32} {cMeet : Int32} {lastMet : Nat → Int32} {cChg : Int32} {cSeed : Int32} {r9 : Int32} {z : (Int32) ⊕ (Unit)} (Ke : z = Sum.inr () → ∀ (H : Heap) (locs : List Loc) (ls : Array Slot), va_P (dC, dI) vwCl (w_X2_firstAbove cyI cyJ cyZ qC q_states q_lastMet cSize cMeet cChg cSeed lastMet) H → va_D A (w_X2_firstAbove cyI cyJ cyZ qC q_states q_lastMet cSize cMeet cChg cSeed lastMet) → va_S A s.heap H locs → lv_has ls 4 [(0, .ref qC), (1, .int x1), (2, .int x2)] → W p l e rm_X2_firstAbove s m args below meth c H locs 0 0 (MQ below (Qzi dC dI cyI cyJ cyZ A (w_X2_firstAbove cyI cyJ cyZ qC q_states q_lastMet cSize cMeet cChg cSeed lastMet) r9) args s 0 0 A) (F0 m 43 ls [])) (Kr : ∀ x9 : Int32, z = Sum.inl x9 → x9 = r9) : ∀ (n9 : Nat) (x3 : Int32), loopN (fun (w9 : Int32) => f_X2_firstAbove_b12 N x1 x2 cSize cMeet lastMet w9) n9 x3 = some z → ∀ (H : Heap) (locs : List Loc) (ls : Array Slot), va_P (dC, dI) vwCl (w_X2_firstAbove cyI cyJ cyZ qC q_states q_lastMet cSize cMeet cChg cSeed lastMet) H → va_D A (w_X2_firstAbove cyI cyJ cyZ qC q_states q_lastMet cSize cMeet cChg cSeed lastMet) → va_S A s.heap H locs → lv_has ls 4 [(0, .ref qC), (1, .int x1), (2, .int x2), (3, .int x3)] → W p l e rm_X2_firstAbove s m args below meth c H locs 0 0 (MQ below (Qzi dC dI cyI cyJ cyZ A (w_X2_firstAbove cyI cyJ cyZ qC q_states q_lastMet cSize cMeet cChg cSeed lastMet) r9) args s 0 0 A) (F0 m 12 ls []) := by
  intro n9
  induction n9 with
  | zero => intro _ h; cases h
  | succ n9 ih =>
    intro x3 h H locs ls hP hD hS hl
    rcases loopN_el h with ⟨y9, h1, h2⟩ | h1
    · exact t_X2_firstAbove_b12 C0 hXs  h1 (fun zx3 q9 H locs ls hP hD hS hl => ih zx3 (by cases q9; exact h2) H locs ls hP hD hS hl) (fun  q9 => by cases q9) (fun _ q9 => by cases q9) H locs ls hP hD hS hl
    · exact t_X2_firstAbove_b12 C0 hXs  h1 (fun _ q9 => by cases q9) (fun  q9 => Ke  (by cases q9; rfl)) (fun x9 q9 => Kr x9 (by cases q9; rfl)) H locs ls hP hD hS hl
def f_X2_firstAbove_b2 (N : Nat) (x1 : Int32) (cSize : Int32) (cMeet : Int32) (lastMet : Nat → Int32) (x2 : Int32) : Option ((Int32) ⊕ ((Int32) ⊕ (Unit))) :=
  (if cSize ≤ x2 then some (Sum.inr (Sum.inr ())) else bs0 (loopN (fun (w9 : Int32) => f_X2_firstAbove_b12 N x1 x2 cSize cMeet lastMet w9) N 0) (fun x9 => some (Sum.inr (Sum.inl x9))) (nm (x2 + 1) (fun x2_6 => some (Sum.inl x2_6))))
set_option maxHeartbeats 4000000 in
set_option maxRecDepth 100000 in
theorem t_X2_firstAbove_b2 (C0 : Cx p s m args meth c cX2_firstAbove (some .int) 4 RX2 wsX2_firstAbove A dC dI cyI cyJ cyZ) {qC q_states q_lastMet : Nat} (hXs : X0 A s) {N : Nat} {x1 : Int32} {cSize : Int32} {cMeet : Int32} {lastMet : Nat → Int32} {x2 : Int32} {cChg : Int32} {cSeed : Int32} {r9 : Int32} {r : (Int32) ⊕ ((Int32) ⊕ (Unit))} (hf : f_X2_firstAbove_b2 N x1 cSize cMeet lastMet x2 = some r) (Kh : ∀ (zx2 : Int32), r = Sum.inl zx2 → ∀ (H : Heap) (locs : List Loc) (ls : Array Slot), va_P (dC, dI) vwCl (w_X2_firstAbove cyI cyJ cyZ qC q_states q_lastMet cSize cMeet cChg cSeed lastMet) H → va_D A (w_X2_firstAbove cyI cyJ cyZ qC q_states q_lastMet cSize cMeet cChg cSeed lastMet) → va_S A s.heap H locs → lv_has ls 4 [(0, .ref qC), (1, .int x1), (2, .int zx2)] → W p l e rm_X2_firstAbove s m args below meth c H locs 0 0 (MQ below (Qzi dC dI cyI cyJ cyZ A (w_X2_firstAbove cyI cyJ cyZ qC q_states q_lastMet cSize cMeet cChg cSeed lastMet) r9) args s 0 0 A) (F0 m 2 ls [])) (Ke : r = Sum.inr (Sum.inr ()) → ∀ (H : Heap) (locs : List Loc) (ls : Array Slot), va_P (dC, dI) vwCl (w_X2_firstAbove cyI cyJ cyZ qC q_states q_lastMet cSize cMeet cChg cSeed lastMet) H → va_D A (w_X2_firstAbove cyI cyJ cyZ qC q_states q_lastMet cSize cMeet cChg cSeed lastMet) → va_S A s.heap H locs → lv_has ls 4 [] → W p l e rm_X2_firstAbove s m args below meth c H locs 0 0 (MQ below (Qzi dC dI cyI cyJ cyZ A (w_X2_firstAbove cyI cyJ cyZ qC q_states q_lastMet cSize cMeet cChg cSeed lastMet) r9) args s 0 0 A) (F0 m 49 ls [])) (Kr : ∀ x9 : Int32, r = Sum.inr (Sum.inl x9) → x9 = r9) (H : Heap) (locs : List Loc) (ls : Array Slot) (hP : va_P (dC, dI) vwCl (w_X2_firstAbove cyI cyJ cyZ qC q_states q_lastMet cSize cMeet cChg cSeed lastMet) H) (hD : va_D A (w_X2_firstAbove cyI cyJ cyZ qC q_states q_lastMet cSize cMeet cChg cSeed lastMet)) (hS : va_S A s.heap H locs) (hl : lv_has ls 4 [(0, .ref qC), (1, .int x1), (2, .int x2)]) : W p l e rm_X2_firstAbove s m args below meth c H locs 0 0 (MQ below (Qzi dC dI cyI cyJ cyZ A (w_X2_firstAbove cyI cyJ cyZ qC q_states q_lastMet cSize cMeet cChg cSeed lastMet) r9) args s 0 0 A) (F0 m 2 ls []) := by
  have C1 := C0
  obtain ⟨hx, hb, hr, hlocks, hml, hown, hts, hA, hK⟩ := C1
  unfold f_X2_firstAbove_b2 at hf
  refine lv_iload_n hx hb dX2_firstAbove_2 rfl (lv_at hl 2 rfl) ?_
  refine lv_aload_n hx hb dX2_firstAbove_3 rfl (lv_at hl 0 rfl) ?_
  refine va_get (D := (dC, dI)) (ci := 1) (v := .int cSize) (C := RX2) (T := TX2) (N := 6) hx hb hts hn_X2_firstAbove_X2 hown hK hP 0 rfl rfl 2 (by decide) (hts (.fieldLink RX2 28 "MetAgents$Crowd" "size" "I") (List.mem_of_getElem? (i := 1) rfl)) (fun _ h9 => h9) rfl dX2_firstAbove_4 ?_
  refine lv_icmp_ge (tgt := 49) hx hb dX2_firstAbove_7 (by decide) (fun c_1 => ?_) (fun c_1 => ?_)
  · replace hf := it_t hf c_1
    exact Ke  (Option.some.inj hf).symm H locs ls hP hD hS (lv_sub hl [] rfl)
  · replace hf := it_f hf c_1
    refine lv_iconst (v := 0) hx hb dX2_firstAbove_10 (by decide) ?_
    refine lv_istore_n (lv' := [(3, .int 0), (0, .ref qC), (1, .int x1), (2, .int x2)]) hx hb dX2_firstAbove_11 rfl hl (by decide) rfl (fun ls hl => ?_)
    rcases bs0_el hf with ⟨x9, hlp, hf⟩ | ⟨hlp, hf⟩
    · exact l_X2_firstAbove_b12 C0 hXs (fun q9 => by cases q9) (fun x9 q9 => by cases q9; exact Kr _ (Option.some.inj hf).symm) N _ hlp H locs ls hP hD hS (lv_sub hl [1, 2, 3, 0] rfl)
    refine l_X2_firstAbove_b12 C0 hXs (fun q9 H locs ls hP hD hS hl => ?_) (fun _ q9 => by cases q9) N _ hlp H locs ls hP hD hS (lv_sub hl [1, 2, 3, 0] rfl)
    cases q9
    obtain ⟨x2_6, e_6, hf⟩ := nm_el hf
    refine lv_iinc (v := x2_6) (lv' := [(2, .int x2_6), (0, .ref qC), (1, .int x1)]) hx hb dX2_firstAbove_43 hl (k := 2) rfl (by rw [e_6]; rfl) (by decide) rfl (fun ls hl => ?_)
    refine lv_goto (tgt := 2) hx hb dX2_firstAbove_46 (by decide) ?_
    exact Kh _ (Option.some.inj hf).symm H locs ls hP hD hS (lv_sub hl [1, 2, 0] rfl)
set_option maxHeartbeats 4000000 in
set_option maxRecDepth 100000 in
theorem l_X2_firstAbove_b2 (C0 : Cx p s m args meth c cX2_firstAbove (some .int) 4 RX2 wsX2_firstAbove A dC dI cyI cyJ cyZ) {qC q_states q_lastMet : Nat} (hXs : X0 A s) {N : Nat} {x1 : Int32} {cSize : Int32} {cMeet : Int32} {lastMet : Nat → Int32} {cChg : Int32} {cSeed : Int32} {r9 : Int32} {z : (Int32) ⊕ (Unit)} (Ke : z = Sum.inr () → ∀ (H : Heap) (locs : List Loc) (ls : Array Slot), va_P (dC, dI) vwCl (w_X2_firstAbove cyI cyJ cyZ qC q_states q_lastMet cSize cMeet cChg cSeed lastMet) H → va_D A (w_X2_firstAbove cyI cyJ cyZ qC q_states q_lastMet cSize cMeet cChg cSeed lastMet) → va_S A s.heap H locs → lv_has ls 4 [] → W p l e rm_X2_firstAbove s m args below meth c H locs 0 0 (MQ below (Qzi dC dI cyI cyJ cyZ A (w_X2_firstAbove cyI cyJ cyZ qC q_states q_lastMet cSize cMeet cChg cSeed lastMet) r9) args s 0 0 A) (F0 m 49 ls [])) (Kr : ∀ x9 : Int32, z = Sum.inl x9 → x9 = r9) : ∀ (n9 : Nat) (x2 : Int32), loopN (fun (w9 : Int32) => f_X2_firstAbove_b2 N x1 cSize cMeet lastMet w9) n9 x2 = some z → ∀ (H : Heap) (locs : List Loc) (ls : Array Slot), va_P (dC, dI) vwCl (w_X2_firstAbove cyI cyJ cyZ qC q_states q_lastMet cSize cMeet cChg cSeed lastMet) H → va_D A (w_X2_firstAbove cyI cyJ cyZ qC q_states q_lastMet cSize cMeet cChg cSeed lastMet) → va_S A s.heap H locs → lv_has ls 4 [(0, .ref qC), (1, .int x1), (2, .int x2)] → W p l e rm_X2_firstAbove s m args below meth c H locs 0 0 (MQ below (Qzi dC dI cyI cyJ cyZ A (w_X2_firstAbove cyI cyJ cyZ qC q_states q_lastMet cSize cMeet cChg cSeed lastMet) r9) args s 0 0 A) (F0 m 2 ls []) := by
  intro n9
  induction n9 with
  | zero => intro _ h; cases h
  | succ n9 ih =>
    intro x2 h H locs ls hP hD hS hl
    rcases loopN_el h with ⟨y9, h1, h2⟩ | h1
    · exact t_X2_firstAbove_b2 C0 hXs  h1 (fun zx2 q9 H locs ls hP hD hS hl => ih zx2 (by cases q9; exact h2) H locs ls hP hD hS hl) (fun  q9 => by cases q9) (fun _ q9 => by cases q9) H locs ls hP hD hS hl
    · exact t_X2_firstAbove_b2 C0 hXs  h1 (fun _ q9 => by cases q9) (fun  q9 => Ke  (by cases q9; rfl)) (fun x9 q9 => Kr x9 (by cases q9; rfl)) H locs ls hP hD hS hl
def f_X2_firstAbove (N : Nat) (x1 : Int32) (cSize : Int32) (cMeet : Int32) (lastMet : Nat → Int32) : Option (Int32) :=
  bs0 (loopN (fun (w9 : Int32) => f_X2_firstAbove_b2 N x1 cSize cMeet lastMet w9) N 0) (fun x9 => some x9) (some ((-9)))
set_option maxHeartbeats 4000000 in
set_option maxRecDepth 100000 in
theorem t_X2_firstAbove (C0 : Cx p s m args meth c cX2_firstAbove (some .int) 4 RX2 wsX2_firstAbove A dC dI cyI cyJ cyZ) {qC q_states q_lastMet : Nat} (hXs : X0 A s) {N : Nat} {x1 : Int32} {cSize : Int32} {cMeet : Int32} {lastMet : Nat → Int32} {cChg : Int32} {cSeed : Int32} {r9 : Int32} (hf : f_X2_firstAbove N x1 cSize cMeet lastMet = some r9) (H : Heap) (locs : List Loc) (ls : Array Slot) (hP : va_P (dC, dI) vwCl (w_X2_firstAbove cyI cyJ cyZ qC q_states q_lastMet cSize cMeet cChg cSeed lastMet) H) (hD : va_D A (w_X2_firstAbove cyI cyJ cyZ qC q_states q_lastMet cSize cMeet cChg cSeed lastMet)) (hS : va_S A s.heap H locs) (hl : lv_has ls 4 [(0, .ref qC), (1, .int x1)]) : W p l e rm_X2_firstAbove s m args below meth c H locs 0 0 (MQ below (Qzi dC dI cyI cyJ cyZ A (w_X2_firstAbove cyI cyJ cyZ qC q_states q_lastMet cSize cMeet cChg cSeed lastMet) r9) args s 0 0 A) (F0 m 0 ls []) := by
  have C1 := C0
  obtain ⟨hx, hb, hr, hlocks, hml, hown, hts, hA, hK⟩ := C1
  unfold f_X2_firstAbove at hf
  refine lv_iconst (v := 0) hx hb dX2_firstAbove_0 (by decide) ?_
  refine lv_istore_n (lv' := [(2, .int 0), (0, .ref qC), (1, .int x1)]) hx hb dX2_firstAbove_1 rfl hl (by decide) rfl (fun ls hl => ?_)
  rcases bs0_el hf with ⟨x9, hlp, hf⟩ | ⟨hlp, hf⟩
  · exact l_X2_firstAbove_b2 C0 hXs (fun q9 => by cases q9) (fun x9 q9 => by cases q9; exact Option.some.inj hf) N _ hlp H locs ls hP hD hS (lv_sub hl [1, 2, 0] rfl)
  refine l_X2_firstAbove_b2 C0 hXs (fun q9 H locs ls hP hD hS hl => ?_) (fun _ q9 => by cases q9) N _ hlp H locs ls hP hD hS (lv_sub hl [1, 2, 0] rfl)
  cases q9
  refine lv_bipush (v := (-9)) hx hb dX2_firstAbove_49 (by decide) ?_
  cases hf
  exact W.iret hx hb hr (fun t ht hW => ⟨⟨_, (), rfl, rfl, by rw [ht]; exact hP, va_K.moved hW.alike hK, hD⟩, hS.F ht⟩) hS.2.2 dX2_firstAbove_51
set_option maxHeartbeats 4000000 in
set_option maxRecDepth 100000 in
theorem c_X2_firstAbove (l : Launch) (dC : Nat → ClassId) (dI : Nat → Nat → Nat) (cyI cyJ cyZ : ClassId) (qC q_states q_lastMet : Nat) (sz N : Nat) (x1 : Int32) (cSize : Int32) (cMeet : Int32) (lastMet : Nat → Int32) (cChg : Int32) (cSeed : Int32) (r9 : Int32) (hf : f_X2_firstAbove N x1 cSize cMeet lastMet = some r9) : Met l yX2_firstAbove wsX2_firstAbove rm_X2_firstAbove (Pz dC dI cyI cyJ cyZ [.ref qC, .int x1] sz (w_X2_firstAbove cyI cyJ cyZ qC q_states q_lastMet cSize cMeet cChg cSeed lastMet) X0) (Qzi dC dI cyI cyJ cyZ (va_A (w_X2_firstAbove cyI cyJ cyZ qC q_states q_lastMet cSize cMeet cChg cSeed lastMet) sz) (w_X2_firstAbove cyI cyJ cyZ qC q_states q_lastMet cSize cMeet cChg cSeed lastMet) r9) 0 0 (va_A (w_X2_firstAbove cyI cyJ cyZ qC q_states q_lastMet cSize cMeet cChg cSeed lastMet) sz) := by
  refine Met_of (cc := cX2_firstAbove) (maxL := 4) (ret := (some .int)) (by decide) rfl (Nat.le_of_ble_eq_true rfl) ?_
  intro p e s m args below meth c ls C0 hsz hXs hP hD hS hl
  exact t_X2_firstAbove C0 hXs hf s.heap [] ls hP hD hS hl
abbrev w_X4_outcomeAt (cyI cyJ cyZ : ClassId) (qB q_twos q_outs : Nat) (bCount : Int32) (twos : Nat → Int32) (outs : Nat → Int32) : va_W := [(qB, .inr (3, [.ref q_twos, .ref q_outs, .int bCount])), (q_twos, .inl (cyI, 12, .inl twos)), (q_outs, .inl (cyI, 36, .inl outs))]
abbrev rm_X4_outcomeAt : Room := { frames := 0, cells := 0, slots := 0, locals := 0 }
theorem hn_X4_outcomeAt_X4 : ∀ w ∈ wsX40, w ∈ wsX4_outcomeAt := fun _ h => List.mem_cons_of_mem _ (List.mem_append_right _ h)
def f_X4_outcomeAt (N : Nat) (x1 : Int32) (twos : Nat → Int32) (outs : Nat → Int32) : Option (Int32) :=
  gd (inb x1 12) (gd (inb (twos x1.toNatClampNeg) 36) (some (outs (twos x1.toNatClampNeg).toNatClampNeg)))
set_option maxHeartbeats 4000000 in
set_option maxRecDepth 100000 in
theorem t_X4_outcomeAt (C0 : Cx p s m args meth c cX4_outcomeAt (some .int) 2 RX4 wsX4_outcomeAt A dC dI cyI cyJ cyZ) {qB q_twos q_outs : Nat} (hXs : X0 A s) {N : Nat} {x1 : Int32} {twos : Nat → Int32} {outs : Nat → Int32} {bCount : Int32} {r9 : Int32} (hf : f_X4_outcomeAt N x1 twos outs = some r9) (H : Heap) (locs : List Loc) (ls : Array Slot) (hP : va_P (dC, dI) vwCl (w_X4_outcomeAt cyI cyJ cyZ qB q_twos q_outs bCount twos outs) H) (hD : va_D A (w_X4_outcomeAt cyI cyJ cyZ qB q_twos q_outs bCount twos outs)) (hS : va_S A s.heap H locs) (hl : lv_has ls 2 [(0, .ref qB), (1, .int x1)]) : W p l e rm_X4_outcomeAt s m args below meth c H locs 0 0 (MQ below (Qzi dC dI cyI cyJ cyZ A (w_X4_outcomeAt cyI cyJ cyZ qB q_twos q_outs bCount twos outs) r9) args s 0 0 A) (F0 m 0 ls []) := by
  have C1 := C0
  obtain ⟨hx, hb, hr, hlocks, hml, hown, hts, hA, hK⟩ := C1
  unfold f_X4_outcomeAt at hf
  refine lv_aload_n hx hb dX4_outcomeAt_0 rfl (lv_at hl 0 rfl) ?_
  refine va_get (D := (dC, dI)) (ci := 3) (v := .ref q_outs) (C := RX4) (T := TX4) (N := 3) hx hb hts hn_X4_outcomeAt_X4 hown hK hP 0 rfl rfl 1 (by decide) (hts (.fieldLink RX4 17 "MetAgents$RuleBook" "outcomes" "[I") (List.mem_of_getElem? (i := 1) rfl)) (fun _ h9 => h9) rfl dX4_outcomeAt_1 ?_
  refine lv_aload_n hx hb dX4_outcomeAt_4 rfl (lv_at hl 0 rfl) ?_
  refine va_get (D := (dC, dI)) (ci := 3) (v := .ref q_twos) (C := RX4) (T := TX4) (N := 3) hx hb hts hn_X4_outcomeAt_X4 hown hK hP 0 rfl rfl 0 (by decide) (hts (.fieldLink RX4 9 "MetAgents$RuleBook" "twos" "[I") (List.mem_of_getElem? (i := 2) rfl)) (fun _ h9 => h9) rfl dX4_outcomeAt_5 ?_
  refine lv_iload_n hx hb dX4_outcomeAt_8 rfl (lv_at hl 1 rfl) ?_
  obtain ⟨h_1, hf⟩ := gd_el hf
  refine va_iald hx hb hK hP 1 0 rfl rfl (inb_in h_1) dX4_outcomeAt_9 ?_
  obtain ⟨h_2, hf⟩ := gd_el hf
  refine va_iald hx hb hK hP 2 0 rfl rfl (inb_in h_2) dX4_outcomeAt_10 ?_
  cases hf
  exact W.iret hx hb hr (fun t ht hW => ⟨⟨_, (), rfl, rfl, by rw [ht]; exact hP, va_K.moved hW.alike hK, hD⟩, hS.F ht⟩) hS.2.2 dX4_outcomeAt_11
set_option maxHeartbeats 4000000 in
set_option maxRecDepth 100000 in
theorem c_X4_outcomeAt (l : Launch) (dC : Nat → ClassId) (dI : Nat → Nat → Nat) (cyI cyJ cyZ : ClassId) (qB q_twos q_outs : Nat) (sz N : Nat) (x1 : Int32) (twos : Nat → Int32) (outs : Nat → Int32) (bCount : Int32) (r9 : Int32) (hf : f_X4_outcomeAt N x1 twos outs = some r9) : Met l yX4_outcomeAt wsX4_outcomeAt rm_X4_outcomeAt (Pz dC dI cyI cyJ cyZ [.ref qB, .int x1] sz (w_X4_outcomeAt cyI cyJ cyZ qB q_twos q_outs bCount twos outs) X0) (Qzi dC dI cyI cyJ cyZ (va_A (w_X4_outcomeAt cyI cyJ cyZ qB q_twos q_outs bCount twos outs) sz) (w_X4_outcomeAt cyI cyJ cyZ qB q_twos q_outs bCount twos outs) r9) 0 0 (va_A (w_X4_outcomeAt cyI cyJ cyZ qB q_twos q_outs bCount twos outs) sz) := by
  refine Met_of (cc := cX4_outcomeAt) (maxL := 2) (ret := (some .int)) (by decide) rfl (Nat.le_of_ble_eq_true rfl) ?_
  intro p e s m args below meth c ls C0 hsz hXs hP hD hS hl
  exact t_X4_outcomeAt C0 hXs hf s.heap [] ls hP hD hS hl
abbrev w_X4_clear (cyI cyJ cyZ : ClassId) (qB q_twos q_outs : Nat) (bCount : Int32) (outs : Nat → Int32) : va_W := [(qB, .inr (3, [.ref q_twos, .ref q_outs, .int bCount])), (q_outs, .inl (cyI, 36, .inl outs))]
abbrev rm_X4_clear : Room := { frames := 1, cells := 0, slots := 0, locals := 23 }
theorem hn_X4_clear_X4 : ∀ w ∈ wsX40, w ∈ wsX4_clear := fun _ h => List.mem_cons_of_mem _ (List.mem_append_right _ h)
def f_X4_clear (N : Nat) (bCount : Int32) (outs : Nat → Int32) : Option (Int32 × (Nat → Int32)) :=
  bd1 (f_J7_fill_53178 N 36 (-1) outs) (fun outs_1 => some (0, outs_1))
set_option maxHeartbeats 4000000 in
set_option maxRecDepth 100000 in
theorem t_X4_clear (C0 : Cx p s m args meth c cX4_clear none 1 RX4 wsX4_clear A dC dI cyI cyJ cyZ) {qB q_twos q_outs : Nat} (hXs : X0 A s) {N : Nat} {bCount : Int32} {outs : Nat → Int32} {bCount9 : Int32} {outs9 : Nat → Int32} (hf : f_X4_clear N bCount outs = some (bCount9, outs9)) (H : Heap) (locs : List Loc) (ls : Array Slot) (hP : va_P (dC, dI) vwCl (w_X4_clear cyI cyJ cyZ qB q_twos q_outs bCount outs) H) (hD : va_D A (w_X4_clear cyI cyJ cyZ qB q_twos q_outs bCount outs)) (hS : va_S A s.heap H locs) (hl : lv_has ls 1 [(0, .ref qB)]) : W p l e rm_X4_clear s m args below meth c H locs 0 0 (MQ below (Qzv dC dI cyI cyJ cyZ A (w_X4_clear cyI cyJ cyZ qB q_twos q_outs bCount9 outs9)) args s 0 0 A) (F0 m 0 ls []) := by
  have C1 := C0
  obtain ⟨hx, hb, hr, hlocks, hml, hown, hts, hA, hK⟩ := C1
  unfold f_X4_clear at hf
  refine lv_aload_n hx hb dX4_clear_0 rfl (lv_at hl 0 rfl) ?_
  refine va_get (D := (dC, dI)) (ci := 3) (v := .ref q_outs) (C := RX4) (T := TX4) (N := 3) hx hb hts hn_X4_clear_X4 hown hK hP 0 rfl rfl 1 (by decide) (hts (.fieldLink RX4 17 "MetAgents$RuleBook" "outcomes" "[I") (List.mem_of_getElem? (i := 1) rfl)) (fun _ h9 => h9) rfl dX4_clear_1 ?_
  refine lv_iconst (v := (-1)) hx hb dX4_clear_4 (by decide) ?_
  obtain ⟨outs_1, hc, hf⟩ := bd1_el hf
  refine cl_v (wc := (w_J7_fill_53178 cyI cyJ cyZ q_outs 36 outs)) (wr := [(qB, .inr (3, [.ref q_twos, .ref q_outs, .int bCount]))]) (w1 := (w_J7_fill_53178 cyI cyJ cyZ q_outs 36 outs_1)) (w2 := (w_X4_clear cyI cyJ cyZ qB q_twos q_outs bCount outs_1)) C0 (rn_S (As := [.ref q_outs, .int (-1)]) (rest := []) (wc := (w_J7_fill_53178 cyI cyJ cyZ q_outs 36 outs)) (X := X0) C0 (c_J7_fill_53178 l dC dI cyI cyJ cyZ q_outs 36 H.size N (-1) outs outs_1 hc) (va_cwS 2 hts gX4_clear_J7_fill_53178 rfl rfl rfl (by decide +kernel) ⟨Nat.le_of_ble_eq_true rfl, Nat.le_of_ble_eq_true rfl⟩) X0_car trivial hP hD hS [1] rfl rfl rfl hl.1 rfl (Nat.le_of_ble_eq_true rfl) dX4_clear_5 ⟨Nat.le_of_ble_eq_true rfl, Nat.le_of_ble_eq_true rfl⟩) hP hD hS [1] [0] [0, 1] rfl rfl rfl (by decide) rfl rfl (fun H locs hP hD hS => ?_)
  refine lv_aload_n hx hb dX4_clear_8 rfl (lv_at hl 0 rfl) ?_
  refine lv_iconst (v := 0) hx hb dX4_clear_9 (by decide) ?_
  refine va_put (D := (dC, dI)) (ci := 3) (v := .int 0) (ty := .int) (C := RX4) (T := TX4) (N := 3) hx hb hts hn_X4_clear_X4 tyX4 tyX4_ok nmX4 hown hK hP hD hS 0 rfl rfl 2 (by decide) (hts (.fieldLink RX4 26 "MetAgents$RuleBook" "count" "I") (List.mem_of_getElem? (i := 2) rfl)) (fun _ h9 => h9) rfl (by decide +kernel) rfl rfl (Nat.le_of_ble_eq_true rfl) dX4_clear_10 (fun H locs (hP : va_P (dC, dI) vwCl (w_X4_clear cyI cyJ cyZ qB q_twos q_outs 0 outs_1) H) (hD : va_D A (w_X4_clear cyI cyJ cyZ qB q_twos q_outs 0 outs_1)) hS => ?_)
  cases hf
  exact W.vret hx hb hr (fun t ht hW => ⟨⟨(), rfl, trivial, by rw [ht]; exact hP, va_K.moved hW.alike hK, hD⟩, hS.F ht⟩) hS.2.2 dX4_clear_13
set_option maxHeartbeats 4000000 in
set_option maxRecDepth 100000 in
theorem c_X4_clear (l : Launch) (dC : Nat → ClassId) (dI : Nat → Nat → Nat) (cyI cyJ cyZ : ClassId) (qB q_twos q_outs : Nat) (sz N : Nat) (bCount : Int32) (outs : Nat → Int32) (bCount9 : Int32) (outs9 : Nat → Int32) (hf : f_X4_clear N bCount outs = some (bCount9, outs9)) : Met l yX4_clear wsX4_clear rm_X4_clear (Pz dC dI cyI cyJ cyZ [.ref qB] sz (w_X4_clear cyI cyJ cyZ qB q_twos q_outs bCount outs) X0) (Qzv dC dI cyI cyJ cyZ (va_A (w_X4_clear cyI cyJ cyZ qB q_twos q_outs bCount outs) sz) (w_X4_clear cyI cyJ cyZ qB q_twos q_outs bCount9 outs9)) 0 0 (va_A (w_X4_clear cyI cyJ cyZ qB q_twos q_outs bCount outs) sz) := by
  refine Met_of (cc := cX4_clear) (maxL := 1) (ret := none) (by decide) rfl (Nat.le_of_ble_eq_true rfl) ?_
  intro p e s m args below meth c ls C0 hsz hXs hP hD hS hl
  exact t_X4_clear C0 hXs hf s.heap [] ls hP hD hS hl
abbrev w_X4_take (cyI cyJ cyZ : ClassId) (qB q_twos q_outs : Nat) (bCount : Int32) (twos : Nat → Int32) (outs : Nat → Int32) : va_W := [(qB, .inr (3, [.ref q_twos, .ref q_outs, .int bCount])), (q_twos, .inl (cyI, 12, .inl twos)), (q_outs, .inl (cyI, 36, .inl outs))]
abbrev rm_X4_take : Room := { frames := 0, cells := 0, slots := 0, locals := 0 }
theorem hn_X4_take_X4 : ∀ w ∈ wsX40, w ∈ wsX4_take := fun _ h => List.mem_cons_of_mem _ (List.mem_append_right _ h)
def f_X4_take_b4 (N : Nat) (x1 : Int32) (bCount : Int32) (outs : Nat → Int32) (x2 : Int32) (x3 : Int32) (twos : Nat → Int32) : Option ((Int32 × Int32 × (Nat → Int32)) ⊕ (Int32 × (Nat → Int32))) :=
  (if bCount ≤ x3 then some (Sum.inr (x2, twos)) else gd (inb x3 12) ((if (twos x3.toNatClampNeg) = x1 then nm (x3 + 1) (fun x3_4 => some (Sum.inl (x2, x3_4, twos))) else gd (inb x3 12) (gd (inb x2 12) (nm (upd twos x2.toNatClampNeg (twos x3.toNatClampNeg)) (fun twos_7 => nm (x2 + 1) (fun x2_8 => nm (x3 + 1) (fun x3_9 => some (Sum.inl (x2_8, x3_9, twos_7))))))))))
set_option maxHeartbeats 4000000 in
set_option maxRecDepth 100000 in
theorem t_X4_take_b4 (C0 : Cx p s m args meth c cX4_take none 4 RX4 wsX4_take A dC dI cyI cyJ cyZ) {qB q_twos q_outs : Nat} (hXs : X0 A s) {N : Nat} {x1 : Int32} {bCount : Int32} {outs : Nat → Int32} {x2 : Int32} {x3 : Int32} {twos : Nat → Int32} {bCount9 : Int32} {twos9 : Nat → Int32} {outs9 : Nat → Int32} {r : (Int32 × Int32 × (Nat → Int32)) ⊕ (Int32 × (Nat → Int32))} (hf : f_X4_take_b4 N x1 bCount outs x2 x3 twos = some r) (Kh : ∀ (zx2 : Int32) (zx3 : Int32) (ztwos : Nat → Int32), r = Sum.inl (zx2, zx3, ztwos) → ∀ (H : Heap) (locs : List Loc) (ls : Array Slot), va_P (dC, dI) vwCl (w_X4_take cyI cyJ cyZ qB q_twos q_outs bCount ztwos outs) H → va_D A (w_X4_take cyI cyJ cyZ qB q_twos q_outs bCount ztwos outs) → va_S A s.heap H locs → lv_has ls 4 [(0, .ref qB), (1, .int x1), (2, .int zx2), (3, .int zx3)] → W p l e rm_X4_take s m args below meth c H locs 0 0 (MQ below (Qzv dC dI cyI cyJ cyZ A (w_X4_take cyI cyJ cyZ qB q_twos q_outs bCount9 twos9 outs9)) args s 0 0 A) (F0 m 4 ls [])) (Ke : ∀ (zx2 : Int32) (ztwos : Nat → Int32), r = Sum.inr (zx2, ztwos) → ∀ (H : Heap) (locs : List Loc) (ls : Array Slot), va_P (dC, dI) vwCl (w_X4_take cyI cyJ cyZ qB q_twos q_outs bCount ztwos outs) H → va_D A (w_X4_take cyI cyJ cyZ qB q_twos q_outs bCount ztwos outs) → va_S A s.heap H locs → lv_has ls 4 [(0, .ref qB), (1, .int x1), (2, .int zx2)] → W p l e rm_X4_take s m args below meth c H locs 0 0 (MQ below (Qzv dC dI cyI cyJ cyZ A (w_X4_take cyI cyJ cyZ qB q_twos q_outs bCount9 twos9 outs9)) args s 0 0 A) (F0 m 43 ls [])) (H : Heap) (locs : List Loc) (ls : Array Slot) (hP : va_P (dC, dI) vwCl (w_X4_take cyI cyJ cyZ qB q_twos q_outs bCount twos outs) H) (hD : va_D A (w_X4_take cyI cyJ cyZ qB q_twos q_outs bCount twos outs)) (hS : va_S A s.heap H locs) (hl : lv_has ls 4 [(0, .ref qB), (1, .int x1), (2, .int x2), (3, .int x3)]) : W p l e rm_X4_take s m args below meth c H locs 0 0 (MQ below (Qzv dC dI cyI cyJ cyZ A (w_X4_take cyI cyJ cyZ qB q_twos q_outs bCount9 twos9 outs9)) args s 0 0 A) (F0 m 4 ls []) := by
  have C1 := C0
  obtain ⟨hx, hb, hr, hlocks, hml, hown, hts, hA, hK⟩ := C1
  unfold f_X4_take_b4 at hf
  refine lv_iload_n hx hb dX4_take_4 rfl (lv_at hl 3 rfl) ?_
  refine lv_aload_n hx hb dX4_take_5 rfl (lv_at hl 0 rfl) ?_
  refine va_get (D := (dC, dI)) (ci := 3) (v := .int bCount) (C := RX4) (T := TX4) (N := 3) hx hb hts hn_X4_take_X4 hown hK hP 0 rfl rfl 2 (by decide) (hts (.fieldLink RX4 26 "MetAgents$RuleBook" "count" "I") (List.mem_of_getElem? (i := 1) rfl)) (fun _ h9 => h9) rfl dX4_take_6 ?_
  refine lv_icmp_ge (tgt := 43) hx hb dX4_take_9 (by decide) (fun c_1 => ?_) (fun c_1 => ?_)
  · replace hf := it_t hf c_1
    exact Ke _ _ (Option.some.inj hf).symm H locs ls hP hD hS (lv_sub hl [0, 1, 2] rfl)
  · replace hf := it_f hf c_1
    refine lv_aload_n hx hb dX4_take_12 rfl (lv_at hl 0 rfl) ?_
    refine va_get (D := (dC, dI)) (ci := 3) (v := .ref q_twos) (C := RX4) (T := TX4) (N := 3) hx hb hts hn_X4_take_X4 hown hK hP 0 rfl rfl 0 (by decide) (hts (.fieldLink RX4 9 "MetAgents$RuleBook" "twos" "[I") (List.mem_of_getElem? (i := 2) rfl)) (fun _ h9 => h9) rfl dX4_take_13 ?_
    refine lv_iload_n hx hb dX4_take_16 rfl (lv_at hl 3 rfl) ?_
    obtain ⟨h_2, hf⟩ := gd_el hf
    refine va_iald hx hb hK hP 1 0 rfl rfl (inb_in h_2) dX4_take_17 ?_
    refine lv_iload_n hx hb dX4_take_18 rfl (lv_at hl 1 rfl) ?_
    refine lv_icmp_eq (tgt := 37) hx hb dX4_take_19 (by decide) (fun c_3 => ?_) (fun c_3 => ?_)
    · replace hf := it_t hf c_3
      obtain ⟨x3_4, e_4, hf⟩ := nm_el hf
      refine lv_iinc (v := x3_4) (lv' := [(3, .int x3_4), (0, .ref qB), (1, .int x1), (2, .int x2)]) hx hb dX4_take_37 hl (k := 3) rfl (by rw [e_4]; rfl) (by decide) rfl (fun ls hl => ?_)
      refine lv_goto (tgt := 4) hx hb dX4_take_40 (by decide) ?_
      exact Kh _ _ _ (Option.some.inj hf).symm H locs ls hP hD hS (lv_sub hl [1, 2, 3, 0] rfl)
    · replace hf := it_f hf c_3
      refine lv_aload_n hx hb dX4_take_22 rfl (lv_at hl 0 rfl) ?_
      refine va_get (D := (dC, dI)) (ci := 3) (v := .ref q_twos) (C := RX4) (T := TX4) (N := 3) hx hb hts hn_X4_take_X4 hown hK hP 0 rfl rfl 0 (by decide) (hts (.fieldLink RX4 9 "MetAgents$RuleBook" "twos" "[I") (List.mem_of_getElem? (i := 2) rfl)) (fun _ h9 => h9) rfl dX4_take_23 ?_
      refine lv_iload_n hx hb dX4_take_26 rfl (lv_at hl 2 rfl) ?_
      refine lv_aload_n hx hb dX4_take_27 rfl (lv_at hl 0 rfl) ?_
      refine va_get (D := (dC, dI)) (ci := 3) (v := .ref q_twos) (C := RX4) (T := TX4) (N := 3) hx hb hts hn_X4_take_X4 hown hK hP 0 rfl rfl 0 (by decide) (hts (.fieldLink RX4 9 "MetAgents$RuleBook" "twos" "[I") (List.mem_of_getElem? (i := 2) rfl)) (fun _ h9 => h9) rfl dX4_take_28 ?_
      refine lv_iload_n hx hb dX4_take_31 rfl (lv_at hl 3 rfl) ?_
      obtain ⟨h_5, hf⟩ := gd_el hf
      refine va_iald hx hb hK hP 1 0 rfl rfl (inb_in h_5) dX4_take_32 ?_
      obtain ⟨h_6, hf⟩ := gd_el hf
      obtain ⟨twos_7, e_7, hf⟩ := nm_el hf
      refine ast_i (w2 := (w_X4_take cyI cyJ cyZ qB q_twos q_outs bCount twos_7 outs)) hx hb hK hP hD hS 1 0 rfl rfl (inb_in h_6) e_7 rfl dX4_take_33 (fun H locs hP hD hS => ?_)
      obtain ⟨x2_8, e_8, hf⟩ := nm_el hf
      refine lv_iinc (v := x2_8) (lv' := [(2, .int x2_8), (0, .ref qB), (1, .int x1), (3, .int x3)]) hx hb dX4_take_34 hl (k := 2) rfl (by rw [e_8]; rfl) (by decide) rfl (fun ls hl => ?_)
      obtain ⟨x3_9, e_9, hf⟩ := nm_el hf
      refine lv_iinc (v := x3_9) (lv' := [(3, .int x3_9), (2, .int x2_8), (0, .ref qB), (1, .int x1)]) hx hb dX4_take_37 hl (k := 3) rfl (by rw [e_9]; rfl) (by decide) rfl (fun ls hl => ?_)
      refine lv_goto (tgt := 4) hx hb dX4_take_40 (by decide) ?_
      exact Kh _ _ _ (Option.some.inj hf).symm H locs ls hP hD hS (lv_sub hl [2, 3, 1, 0] rfl)
set_option maxHeartbeats 4000000 in
set_option maxRecDepth 100000 in
theorem l_X4_take_b4 (C0 : Cx p s m args meth c cX4_take none 4 RX4 wsX4_take A dC dI cyI cyJ cyZ) {qB q_twos q_outs : Nat} (hXs : X0 A s) {N : Nat} {x1 : Int32} {bCount : Int32} {outs : Nat → Int32} {bCount9 : Int32} {twos9 : Nat → Int32} {outs9 : Nat → Int32} {z : Int32 × (Nat → Int32)} (Ke : ∀ (zx2 : Int32) (ztwos : Nat → Int32), z = (zx2, ztwos) → ∀ (H : Heap) (locs : List Loc) (ls : Array Slot), va_P (dC, dI) vwCl (w_X4_take cyI cyJ cyZ qB q_twos q_outs bCount ztwos outs) H → va_D A (w_X4_take cyI cyJ cyZ qB q_twos q_outs bCount ztwos outs) → va_S A s.heap H locs → lv_has ls 4 [(0, .ref qB), (1, .int x1), (2, .int zx2)] → W p l e rm_X4_take s m args below meth c H locs 0 0 (MQ below (Qzv dC dI cyI cyJ cyZ A (w_X4_take cyI cyJ cyZ qB q_twos q_outs bCount9 twos9 outs9)) args s 0 0 A) (F0 m 43 ls [])) : ∀ (n9 : Nat) (x2 : Int32) (x3 : Int32) (twos : Nat → Int32), loopN (fun (w9 : Int32 × Int32 × (Nat → Int32)) => f_X4_take_b4 N x1 bCount outs w9.1 w9.2.1 w9.2.2) n9 (x2, x3, twos) = some z → ∀ (H : Heap) (locs : List Loc) (ls : Array Slot), va_P (dC, dI) vwCl (w_X4_take cyI cyJ cyZ qB q_twos q_outs bCount twos outs) H → va_D A (w_X4_take cyI cyJ cyZ qB q_twos q_outs bCount twos outs) → va_S A s.heap H locs → lv_has ls 4 [(0, .ref qB), (1, .int x1), (2, .int x2), (3, .int x3)] → W p l e rm_X4_take s m args below meth c H locs 0 0 (MQ below (Qzv dC dI cyI cyJ cyZ A (w_X4_take cyI cyJ cyZ qB q_twos q_outs bCount9 twos9 outs9)) args s 0 0 A) (F0 m 4 ls []) := by
  intro n9
  induction n9 with
  | zero => intro _ _ _ h; cases h
  | succ n9 ih =>
    intro x2 x3 twos h H locs ls hP hD hS hl
    rcases loopN_el h with ⟨y9, h1, h2⟩ | h1
    · exact t_X4_take_b4 C0 hXs  h1 (fun zx2 zx3 ztwos q9 H locs ls hP hD hS hl => ih zx2 zx3 ztwos (by cases q9; exact h2) H locs ls hP hD hS hl) (fun _ _ q9 => by cases q9) H locs ls hP hD hS hl
    · exact t_X4_take_b4 C0 hXs  h1 (fun _ _ _ q9 => by cases q9) (fun ex2 etwos q9 => Ke ex2 etwos (by cases q9; rfl)) H locs ls hP hD hS hl
def f_X4_take (N : Nat) (x1 : Int32) (bCount : Int32) (twos : Nat → Int32) (outs : Nat → Int32) : Option (Int32 × (Nat → Int32) × (Nat → Int32)) :=
  bd2 (loopN (fun (w9 : Int32 × Int32 × (Nat → Int32)) => f_X4_take_b4 N x1 bCount outs w9.1 w9.2.1 w9.2.2) N (0, 0, twos)) (fun x2_10 twos_11 => gd (inb x1 36) (nm (upd outs x1.toNatClampNeg (-1)) (fun outs_13 => some (x2_10, twos_11, outs_13))))
set_option maxHeartbeats 4000000 in
set_option maxRecDepth 100000 in
theorem t_X4_take (C0 : Cx p s m args meth c cX4_take none 4 RX4 wsX4_take A dC dI cyI cyJ cyZ) {qB q_twos q_outs : Nat} (hXs : X0 A s) {N : Nat} {x1 : Int32} {bCount : Int32} {twos : Nat → Int32} {outs : Nat → Int32} {bCount9 : Int32} {twos9 : Nat → Int32} {outs9 : Nat → Int32} (hf : f_X4_take N x1 bCount twos outs = some (bCount9, twos9, outs9)) (H : Heap) (locs : List Loc) (ls : Array Slot) (hP : va_P (dC, dI) vwCl (w_X4_take cyI cyJ cyZ qB q_twos q_outs bCount twos outs) H) (hD : va_D A (w_X4_take cyI cyJ cyZ qB q_twos q_outs bCount twos outs)) (hS : va_S A s.heap H locs) (hl : lv_has ls 4 [(0, .ref qB), (1, .int x1)]) : W p l e rm_X4_take s m args below meth c H locs 0 0 (MQ below (Qzv dC dI cyI cyJ cyZ A (w_X4_take cyI cyJ cyZ qB q_twos q_outs bCount9 twos9 outs9)) args s 0 0 A) (F0 m 0 ls []) := by
  have C1 := C0
  obtain ⟨hx, hb, hr, hlocks, hml, hown, hts, hA, hK⟩ := C1
  unfold f_X4_take at hf
  refine lv_iconst (v := 0) hx hb dX4_take_0 (by decide) ?_
  refine lv_istore_n (lv' := [(2, .int 0), (0, .ref qB), (1, .int x1)]) hx hb dX4_take_1 rfl hl (by decide) rfl (fun ls hl => ?_)
  refine lv_iconst (v := 0) hx hb dX4_take_2 (by decide) ?_
  refine lv_istore_n (lv' := [(3, .int 0), (2, .int 0), (0, .ref qB), (1, .int x1)]) hx hb dX4_take_3 rfl hl (by decide) rfl (fun ls hl => ?_)
  obtain ⟨x2_10, twos_11, hlp, hf⟩ := bd2_el hf
  refine l_X4_take_b4 C0 hXs (fun x2_10 twos_11 q9 H locs ls hP hD hS hl => ?_) N _ _ _ hlp H locs ls hP hD hS (lv_sub hl [2, 3, 1, 0] rfl)
  cases q9
  refine lv_aload_n hx hb dX4_take_43 rfl (lv_at hl 0 rfl) ?_
  refine lv_iload_n hx hb dX4_take_44 rfl (lv_at hl 2 rfl) ?_
  refine va_put (D := (dC, dI)) (ci := 3) (v := .int x2_10) (ty := .int) (C := RX4) (T := TX4) (N := 3) hx hb hts hn_X4_take_X4 tyX4 tyX4_ok nmX4 hown hK hP hD hS 0 rfl rfl 2 (by decide) (hts (.fieldLink RX4 26 "MetAgents$RuleBook" "count" "I") (List.mem_of_getElem? (i := 1) rfl)) (fun _ h9 => h9) rfl (by decide +kernel) rfl rfl (Nat.le_of_ble_eq_true rfl) dX4_take_45 (fun H locs (hP : va_P (dC, dI) vwCl (w_X4_take cyI cyJ cyZ qB q_twos q_outs x2_10 twos_11 outs) H) (hD : va_D A (w_X4_take cyI cyJ cyZ qB q_twos q_outs x2_10 twos_11 outs)) hS => ?_)
  refine lv_aload_n hx hb dX4_take_48 rfl (lv_at hl 0 rfl) ?_
  refine va_get (D := (dC, dI)) (ci := 3) (v := .ref q_outs) (C := RX4) (T := TX4) (N := 3) hx hb hts hn_X4_take_X4 hown hK hP 0 rfl rfl 1 (by decide) (hts (.fieldLink RX4 17 "MetAgents$RuleBook" "outcomes" "[I") (List.mem_of_getElem? (i := 3) rfl)) (fun _ h9 => h9) rfl dX4_take_49 ?_
  refine lv_iload_n hx hb dX4_take_52 rfl (lv_at hl 1 rfl) ?_
  refine lv_iconst (v := (-1)) hx hb dX4_take_53 (by decide) ?_
  obtain ⟨h_12, hf⟩ := gd_el hf
  obtain ⟨outs_13, e_13, hf⟩ := nm_el hf
  refine ast_i (w2 := (w_X4_take cyI cyJ cyZ qB q_twos q_outs x2_10 twos_11 outs_13)) hx hb hK hP hD hS 2 0 rfl rfl (inb_in h_12) e_13 rfl dX4_take_54 (fun H locs hP hD hS => ?_)
  cases hf
  exact W.vret hx hb hr (fun t ht hW => ⟨⟨(), rfl, trivial, by rw [ht]; exact hP, va_K.moved hW.alike hK, hD⟩, hS.F ht⟩) hS.2.2 dX4_take_55
set_option maxHeartbeats 4000000 in
set_option maxRecDepth 100000 in
theorem c_X4_take (l : Launch) (dC : Nat → ClassId) (dI : Nat → Nat → Nat) (cyI cyJ cyZ : ClassId) (qB q_twos q_outs : Nat) (sz N : Nat) (x1 : Int32) (bCount : Int32) (twos : Nat → Int32) (outs : Nat → Int32) (bCount9 : Int32) (twos9 : Nat → Int32) (outs9 : Nat → Int32) (hf : f_X4_take N x1 bCount twos outs = some (bCount9, twos9, outs9)) : Met l yX4_take wsX4_take rm_X4_take (Pz dC dI cyI cyJ cyZ [.ref qB, .int x1] sz (w_X4_take cyI cyJ cyZ qB q_twos q_outs bCount twos outs) X0) (Qzv dC dI cyI cyJ cyZ (va_A (w_X4_take cyI cyJ cyZ qB q_twos q_outs bCount twos outs) sz) (w_X4_take cyI cyJ cyZ qB q_twos q_outs bCount9 twos9 outs9)) 0 0 (va_A (w_X4_take cyI cyJ cyZ qB q_twos q_outs bCount twos outs) sz) := by
  refine Met_of (cc := cX4_take) (maxL := 4) (ret := none) (by decide) rfl (Nat.le_of_ble_eq_true rfl) ?_
  intro p e s m args below meth c ls C0 hsz hXs hP hD hS hl
  exact t_X4_take C0 hXs hf s.heap [] ls hP hD hS hl
abbrev w_X4_put (cyI cyJ cyZ : ClassId) (qB q_twos q_outs : Nat) (bCount : Int32) (twos : Nat → Int32) (outs : Nat → Int32) : va_W := [(qB, .inr (3, [.ref q_twos, .ref q_outs, .int bCount])), (q_twos, .inl (cyI, 12, .inl twos)), (q_outs, .inl (cyI, 36, .inl outs))]
abbrev rm_X4_put : Room := { frames := 1, cells := 0, slots := 0, locals := 23 }
theorem hn_X4_put_X4 : ∀ w ∈ wsX40, w ∈ wsX4_put := fun _ h => List.mem_cons_of_mem _ (List.mem_append_right _ h)
def f_X4_put_j36 (N : Nat) (x1 : Int32) (x2 : Int32) (bCount : Int32) (twos : Nat → Int32) (outs : Nat → Int32) : Option (Int32 × (Nat → Int32) × (Nat → Int32)) :=
  gd (inb bCount 12) (nm (upd twos bCount.toNatClampNeg x1) (fun twos_5 => gd (inb x1 36) (nm (upd outs x1.toNatClampNeg x2) (fun outs_7 => nm (bCount + 1) (fun bCount_8 => some (bCount_8, twos_5, outs_7))))))
set_option maxHeartbeats 4000000 in
set_option maxRecDepth 100000 in
theorem t_X4_put_j36 (C0 : Cx p s m args meth c cX4_put none 3 RX4 wsX4_put A dC dI cyI cyJ cyZ) {qB q_twos q_outs : Nat} (hXs : X0 A s) {N : Nat} {x1 : Int32} {x2 : Int32} {bCount : Int32} {twos : Nat → Int32} {outs : Nat → Int32} {bCount9 : Int32} {twos9 : Nat → Int32} {outs9 : Nat → Int32} (hf : f_X4_put_j36 N x1 x2 bCount twos outs = some (bCount9, twos9, outs9)) (H : Heap) (locs : List Loc) (ls : Array Slot) (hP : va_P (dC, dI) vwCl (w_X4_put cyI cyJ cyZ qB q_twos q_outs bCount twos outs) H) (hD : va_D A (w_X4_put cyI cyJ cyZ qB q_twos q_outs bCount twos outs)) (hS : va_S A s.heap H locs) (hl : lv_has ls 3 [(0, .ref qB), (1, .int x1), (2, .int x2)]) : W p l e rm_X4_put s m args below meth c H locs 0 0 (MQ below (Qzv dC dI cyI cyJ cyZ A (w_X4_put cyI cyJ cyZ qB q_twos q_outs bCount9 twos9 outs9)) args s 0 0 A) (F0 m 36 ls []) := by
  have C1 := C0
  obtain ⟨hx, hb, hr, hlocks, hml, hown, hts, hA, hK⟩ := C1
  unfold f_X4_put_j36 at hf
  refine lv_aload_n hx hb dX4_put_36 rfl (lv_at hl 0 rfl) ?_
  refine va_get (D := (dC, dI)) (ci := 3) (v := .ref q_twos) (C := RX4) (T := TX4) (N := 3) hx hb hts hn_X4_put_X4 hown hK hP 0 rfl rfl 0 (by decide) (hts (.fieldLink RX4 9 "MetAgents$RuleBook" "twos" "[I") (List.mem_of_getElem? (i := 3) rfl)) (fun _ h9 => h9) rfl dX4_put_37 ?_
  refine lv_aload_n hx hb dX4_put_40 rfl (lv_at hl 0 rfl) ?_
  refine va_get (D := (dC, dI)) (ci := 3) (v := .int bCount) (C := RX4) (T := TX4) (N := 3) hx hb hts hn_X4_put_X4 hown hK hP 0 rfl rfl 2 (by decide) (hts (.fieldLink RX4 26 "MetAgents$RuleBook" "count" "I") (List.mem_of_getElem? (i := 2) rfl)) (fun _ h9 => h9) rfl dX4_put_41 ?_
  refine lv_iload_n hx hb dX4_put_44 rfl (lv_at hl 1 rfl) ?_
  obtain ⟨h_4, hf⟩ := gd_el hf
  obtain ⟨twos_5, e_5, hf⟩ := nm_el hf
  refine ast_i (w2 := (w_X4_put cyI cyJ cyZ qB q_twos q_outs bCount twos_5 outs)) hx hb hK hP hD hS 1 0 rfl rfl (inb_in h_4) e_5 rfl dX4_put_45 (fun H locs hP hD hS => ?_)
  refine lv_aload_n hx hb dX4_put_46 rfl (lv_at hl 0 rfl) ?_
  refine va_get (D := (dC, dI)) (ci := 3) (v := .ref q_outs) (C := RX4) (T := TX4) (N := 3) hx hb hts hn_X4_put_X4 hown hK hP 0 rfl rfl 1 (by decide) (hts (.fieldLink RX4 17 "MetAgents$RuleBook" "outcomes" "[I") (List.mem_of_getElem? (i := 1) rfl)) (fun _ h9 => h9) rfl dX4_put_47 ?_
  refine lv_iload_n hx hb dX4_put_50 rfl (lv_at hl 1 rfl) ?_
  refine lv_iload_n hx hb dX4_put_51 rfl (lv_at hl 2 rfl) ?_
  obtain ⟨h_6, hf⟩ := gd_el hf
  obtain ⟨outs_7, e_7, hf⟩ := nm_el hf
  refine ast_i (w2 := (w_X4_put cyI cyJ cyZ qB q_twos q_outs bCount twos_5 outs_7)) hx hb hK hP hD hS 2 0 rfl rfl (inb_in h_6) e_7 rfl dX4_put_52 (fun H locs hP hD hS => ?_)
  refine lv_aload_n hx hb dX4_put_53 rfl (lv_at hl 0 rfl) ?_
  refine lv_dup hx hb dX4_put_54 rfl ?_
  refine va_get (D := (dC, dI)) (ci := 3) (v := .int bCount) (C := RX4) (T := TX4) (N := 3) hx hb hts hn_X4_put_X4 hown hK hP 0 rfl rfl 2 (by decide) (hts (.fieldLink RX4 26 "MetAgents$RuleBook" "count" "I") (List.mem_of_getElem? (i := 2) rfl)) (fun _ h9 => h9) rfl dX4_put_55 ?_
  refine lv_iconst (v := 1) hx hb dX4_put_58 (by decide) ?_
  refine lv_iadd hx hb dX4_put_59 ?_
  obtain ⟨bCount_8, e_8, hf⟩ := nm_el hf
  refine top_i e_8 ?_
  refine va_put (D := (dC, dI)) (ci := 3) (v := .int bCount_8) (ty := .int) (C := RX4) (T := TX4) (N := 3) hx hb hts hn_X4_put_X4 tyX4 tyX4_ok nmX4 hown hK hP hD hS 0 rfl rfl 2 (by decide) (hts (.fieldLink RX4 26 "MetAgents$RuleBook" "count" "I") (List.mem_of_getElem? (i := 2) rfl)) (fun _ h9 => h9) rfl (by decide +kernel) rfl rfl (Nat.le_of_ble_eq_true rfl) dX4_put_60 (fun H locs (hP : va_P (dC, dI) vwCl (w_X4_put cyI cyJ cyZ qB q_twos q_outs bCount_8 twos_5 outs_7) H) (hD : va_D A (w_X4_put cyI cyJ cyZ qB q_twos q_outs bCount_8 twos_5 outs_7)) hS => ?_)
  cases hf
  exact W.vret hx hb hr (fun t ht hW => ⟨⟨(), rfl, trivial, by rw [ht]; exact hP, va_K.moved hW.alike hK, hD⟩, hS.F ht⟩) hS.2.2 dX4_put_63
def f_X4_put (N : Nat) (x1 : Int32) (x2 : Int32) (bCount : Int32) (twos : Nat → Int32) (outs : Nat → Int32) : Option (Int32 × (Nat → Int32) × (Nat → Int32)) :=
  gd (inb x1 36) ((if (outs x1.toNatClampNeg) < 0 then (if bCount < 12 then f_X4_put_j36 N x1 x2 bCount twos outs else gd (inb 0 12) (bd3 (f_X4_take N (twos (0 : Int32).toNatClampNeg) bCount twos outs) (fun bCount_10 twos_11 outs_12 => f_X4_put_j36 N x1 x2 bCount_10 twos_11 outs_12))) else bd3 (f_X4_take N x1 bCount twos outs) (fun bCount_13 twos_14 outs_15 => f_X4_put_j36 N x1 x2 bCount_13 twos_14 outs_15)))
set_option maxHeartbeats 4000000 in
set_option maxRecDepth 100000 in
theorem t_X4_put (C0 : Cx p s m args meth c cX4_put none 3 RX4 wsX4_put A dC dI cyI cyJ cyZ) {qB q_twos q_outs : Nat} (hXs : X0 A s) {N : Nat} {x1 : Int32} {x2 : Int32} {bCount : Int32} {twos : Nat → Int32} {outs : Nat → Int32} {bCount9 : Int32} {twos9 : Nat → Int32} {outs9 : Nat → Int32} (hf : f_X4_put N x1 x2 bCount twos outs = some (bCount9, twos9, outs9)) (H : Heap) (locs : List Loc) (ls : Array Slot) (hP : va_P (dC, dI) vwCl (w_X4_put cyI cyJ cyZ qB q_twos q_outs bCount twos outs) H) (hD : va_D A (w_X4_put cyI cyJ cyZ qB q_twos q_outs bCount twos outs)) (hS : va_S A s.heap H locs) (hl : lv_has ls 3 [(0, .ref qB), (1, .int x1), (2, .int x2)]) : W p l e rm_X4_put s m args below meth c H locs 0 0 (MQ below (Qzv dC dI cyI cyJ cyZ A (w_X4_put cyI cyJ cyZ qB q_twos q_outs bCount9 twos9 outs9)) args s 0 0 A) (F0 m 0 ls []) := by
  have C1 := C0
  obtain ⟨hx, hb, hr, hlocks, hml, hown, hts, hA, hK⟩ := C1
  unfold f_X4_put at hf
  refine lv_aload_n hx hb dX4_put_0 rfl (lv_at hl 0 rfl) ?_
  refine va_get (D := (dC, dI)) (ci := 3) (v := .ref q_outs) (C := RX4) (T := TX4) (N := 3) hx hb hts hn_X4_put_X4 hown hK hP 0 rfl rfl 1 (by decide) (hts (.fieldLink RX4 17 "MetAgents$RuleBook" "outcomes" "[I") (List.mem_of_getElem? (i := 1) rfl)) (fun _ h9 => h9) rfl dX4_put_1 ?_
  refine lv_iload_n hx hb dX4_put_4 rfl (lv_at hl 1 rfl) ?_
  obtain ⟨h_1, hf⟩ := gd_el hf
  refine va_iald hx hb hK hP 2 0 rfl rfl (inb_in h_1) dX4_put_5 ?_
  refine lv_if_lt (tgt := 17) hx hb dX4_put_6 (by decide) (fun c_2 => ?_) (fun c_2 => ?_)
  · replace hf := it_t hf c_2
    refine lv_aload_n hx hb dX4_put_17 rfl (lv_at hl 0 rfl) ?_
    refine va_get (D := (dC, dI)) (ci := 3) (v := .int bCount) (C := RX4) (T := TX4) (N := 3) hx hb hts hn_X4_put_X4 hown hK hP 0 rfl rfl 2 (by decide) (hts (.fieldLink RX4 26 "MetAgents$RuleBook" "count" "I") (List.mem_of_getElem? (i := 2) rfl)) (fun _ h9 => h9) rfl dX4_put_18 ?_
    refine lv_bipush (v := 12) hx hb dX4_put_21 (by decide) ?_
    refine lv_icmp_lt (tgt := 36) hx hb dX4_put_23 (by decide) (fun c_3 => ?_) (fun c_3 => ?_)
    · replace hf := it_t hf c_3
      exact t_X4_put_j36 C0 hXs hf H locs ls hP hD hS (lv_sub hl [0, 1, 2] rfl)
    · replace hf := it_f hf c_3
      refine lv_aload_n hx hb dX4_put_26 rfl (lv_at hl 0 rfl) ?_
      refine lv_aload_n hx hb dX4_put_27 rfl (lv_at hl 0 rfl) ?_
      refine va_get (D := (dC, dI)) (ci := 3) (v := .ref q_twos) (C := RX4) (T := TX4) (N := 3) hx hb hts hn_X4_put_X4 hown hK hP 0 rfl rfl 0 (by decide) (hts (.fieldLink RX4 9 "MetAgents$RuleBook" "twos" "[I") (List.mem_of_getElem? (i := 3) rfl)) (fun _ h9 => h9) rfl dX4_put_28 ?_
      refine lv_iconst (v := 0) hx hb dX4_put_31 (by decide) ?_
      obtain ⟨h_9, hf⟩ := gd_el hf
      refine va_iald hx hb hK hP 1 0 rfl rfl (inb_in h_9) dX4_put_32 ?_
      obtain ⟨bCount_10, twos_11, outs_12, hc, hf⟩ := bd3_el hf
      refine cl_v (wc := (w_X4_take cyI cyJ cyZ qB q_twos q_outs bCount twos outs)) (wr := []) (w1 := (w_X4_take cyI cyJ cyZ qB q_twos q_outs bCount_10 twos_11 outs_12)) (w2 := (w_X4_put cyI cyJ cyZ qB q_twos q_outs bCount_10 twos_11 outs_12)) C0 (rn_V (As := [.int (twos (0 : Int32).toNatClampNeg)]) (rest := []) (wc := (w_X4_take cyI cyJ cyZ qB q_twos q_outs bCount twos outs)) (X := X0) C0 (c_X4_take l dC dI cyI cyJ cyZ qB q_twos q_outs H.size N (twos (0 : Int32).toNatClampNeg) bCount twos outs bCount_10 twos_11 outs_12 hc) (cwV 1 hts gX4_put_X4_take rfl rfl rfl (by decide +kernel) ⟨Nat.le_of_ble_eq_true rfl, Nat.le_of_ble_eq_true rfl⟩) X0_car trivial hP hD hS [0, 1, 2] rfl rfl 0 3 rfl rfl rfl hl.1 rfl (Nat.le_of_ble_eq_true rfl) dX4_put_33 ⟨Nat.le_of_ble_eq_true rfl, Nat.le_of_ble_eq_true rfl⟩) hP hD hS [0, 1, 2] [] [0, 1, 2] rfl rfl rfl (by decide) rfl rfl (fun H locs hP hD hS => ?_)
      exact t_X4_put_j36 C0 hXs hf H locs ls hP hD hS (lv_sub hl [0, 1, 2] rfl)
  · replace hf := it_f hf c_2
    refine lv_aload_n hx hb dX4_put_9 rfl (lv_at hl 0 rfl) ?_
    refine lv_iload_n hx hb dX4_put_10 rfl (lv_at hl 1 rfl) ?_
    obtain ⟨bCount_13, twos_14, outs_15, hc, hf⟩ := bd3_el hf
    refine cl_v (wc := (w_X4_take cyI cyJ cyZ qB q_twos q_outs bCount twos outs)) (wr := []) (w1 := (w_X4_take cyI cyJ cyZ qB q_twos q_outs bCount_13 twos_14 outs_15)) (w2 := (w_X4_put cyI cyJ cyZ qB q_twos q_outs bCount_13 twos_14 outs_15)) C0 (rn_V (As := [.int x1]) (rest := []) (wc := (w_X4_take cyI cyJ cyZ qB q_twos q_outs bCount twos outs)) (X := X0) C0 (c_X4_take l dC dI cyI cyJ cyZ qB q_twos q_outs H.size N x1 bCount twos outs bCount_13 twos_14 outs_15 hc) (cwV 1 hts gX4_put_X4_take rfl rfl rfl (by decide +kernel) ⟨Nat.le_of_ble_eq_true rfl, Nat.le_of_ble_eq_true rfl⟩) X0_car trivial hP hD hS [0, 1, 2] rfl rfl 0 3 rfl rfl rfl hl.1 rfl (Nat.le_of_ble_eq_true rfl) dX4_put_11 ⟨Nat.le_of_ble_eq_true rfl, Nat.le_of_ble_eq_true rfl⟩) hP hD hS [0, 1, 2] [] [0, 1, 2] rfl rfl rfl (by decide) rfl rfl (fun H locs hP hD hS => ?_)
    refine lv_goto (tgt := 36) hx hb dX4_put_14 (by decide) ?_
    exact t_X4_put_j36 C0 hXs hf H locs ls hP hD hS (lv_sub hl [0, 1, 2] rfl)
set_option maxHeartbeats 4000000 in
set_option maxRecDepth 100000 in
theorem c_X4_put (l : Launch) (dC : Nat → ClassId) (dI : Nat → Nat → Nat) (cyI cyJ cyZ : ClassId) (qB q_twos q_outs : Nat) (sz N : Nat) (x1 : Int32) (x2 : Int32) (bCount : Int32) (twos : Nat → Int32) (outs : Nat → Int32) (bCount9 : Int32) (twos9 : Nat → Int32) (outs9 : Nat → Int32) (hf : f_X4_put N x1 x2 bCount twos outs = some (bCount9, twos9, outs9)) : Met l yX4_put wsX4_put rm_X4_put (Pz dC dI cyI cyJ cyZ [.ref qB, .int x1, .int x2] sz (w_X4_put cyI cyJ cyZ qB q_twos q_outs bCount twos outs) X0) (Qzv dC dI cyI cyJ cyZ (va_A (w_X4_put cyI cyJ cyZ qB q_twos q_outs bCount twos outs) sz) (w_X4_put cyI cyJ cyZ qB q_twos q_outs bCount9 twos9 outs9)) 0 0 (va_A (w_X4_put cyI cyJ cyZ qB q_twos q_outs bCount twos outs) sz) := by
  refine Met_of (cc := cX4_put) (maxL := 3) (ret := none) (by decide) rfl (Nat.le_of_ble_eq_true rfl) ?_
  intro p e s m args below meth c ls C0 hsz hXs hP hD hS hl
  exact t_X4_put C0 hXs hf s.heap [] ls hP hD hS hl
abbrev w_X4_statesNamedAt (cyI cyJ cyZ : ClassId) (qB q_twos q_outs : Nat) (bCount : Int32) (twos : Nat → Int32) (outs : Nat → Int32) : va_W := [(qB, .inr (3, [.ref q_twos, .ref q_outs, .int bCount])), (q_twos, .inl (cyI, 12, .inl twos)), (q_outs, .inl (cyI, 36, .inl outs))]
abbrev rm_X4_statesNamedAt : Room := { frames := 1, cells := 0, slots := 0, locals := 21 }
def f_X4_statesNamedAt (N : Nat) (x1 : Int32) (twos : Nat → Int32) (outs : Nat → Int32) : Option (Int32) :=
  bd1 (f_X4_twoAt N x1 twos) (fun r_1 => bd1 (f_X4_outcomeAt N x1 twos outs) (fun r_2 => bd1 (f_X5_first N r_1) (fun r_3 => bd1 (f_X5_second N r_1) (fun r_4 => bd1 (f_X5_first N r_2) (fun r_5 => bd1 (f_X5_second N r_2) (fun r_6 => some ((((1 <<< (r_3 &&& 31)) ||| (1 <<< (r_4 &&& 31))) ||| (1 <<< (r_5 &&& 31))) ||| (1 <<< (r_6 &&& 31)))))))))
set_option maxHeartbeats 4000000 in
set_option maxRecDepth 100000 in
theorem t_X4_statesNamedAt (C0 : Cx p s m args meth c cX4_statesNamedAt (some .int) 4 RX4 wsX4_statesNamedAt A dC dI cyI cyJ cyZ) {qB q_twos q_outs : Nat} (hXs : X0 A s) {N : Nat} {x1 : Int32} {twos : Nat → Int32} {outs : Nat → Int32} {bCount : Int32} {r9 : Int32} (hf : f_X4_statesNamedAt N x1 twos outs = some r9) (H : Heap) (locs : List Loc) (ls : Array Slot) (hP : va_P (dC, dI) vwCl (w_X4_statesNamedAt cyI cyJ cyZ qB q_twos q_outs bCount twos outs) H) (hD : va_D A (w_X4_statesNamedAt cyI cyJ cyZ qB q_twos q_outs bCount twos outs)) (hS : va_S A s.heap H locs) (hl : lv_has ls 4 [(0, .ref qB), (1, .int x1)]) : W p l e rm_X4_statesNamedAt s m args below meth c H locs 0 0 (MQ below (Qzi dC dI cyI cyJ cyZ A (w_X4_statesNamedAt cyI cyJ cyZ qB q_twos q_outs bCount twos outs) r9) args s 0 0 A) (F0 m 0 ls []) := by
  have C1 := C0
  obtain ⟨hx, hb, hr, hlocks, hml, hown, hts, hA, hK⟩ := C1
  unfold f_X4_statesNamedAt at hf
  refine lv_aload_n hx hb dX4_statesNamedAt_0 rfl (lv_at hl 0 rfl) ?_
  refine lv_iload_n hx hb dX4_statesNamedAt_1 rfl (lv_at hl 1 rfl) ?_
  obtain ⟨r_1, hc, hf⟩ := bd1_el hf
  refine cl_i (wc := (w_X4_twoAt cyI cyJ cyZ qB q_twos q_outs bCount twos)) (wr := [(q_outs, .inl (cyI, 36, .inl outs))]) (w1 := (w_X4_twoAt cyI cyJ cyZ qB q_twos q_outs bCount twos)) (w2 := (w_X4_statesNamedAt cyI cyJ cyZ qB q_twos q_outs bCount twos outs)) C0 (rn_V (As := [.int x1]) (rest := []) (wc := (w_X4_twoAt cyI cyJ cyZ qB q_twos q_outs bCount twos)) (X := X0) C0 (c_X4_twoAt l dC dI cyI cyJ cyZ qB q_twos q_outs H.size N x1 twos bCount r_1 hc) (cwV 1 hts gX4_statesNamedAt_X4_twoAt rfl rfl rfl (by decide +kernel) ⟨Nat.le_of_ble_eq_true rfl, Nat.le_of_ble_eq_true rfl⟩) X0_car trivial hP hD hS [0, 1] rfl rfl 0 3 rfl rfl rfl hl.1 rfl (Nat.le_of_ble_eq_true rfl) dX4_statesNamedAt_2 ⟨Nat.le_of_ble_eq_true rfl, Nat.le_of_ble_eq_true rfl⟩) hP hD hS [0, 1] [2] [1, 2, 0] rfl rfl rfl (by decide) rfl rfl (fun H locs hP hD hS => ?_)
  refine lv_istore_n (lv' := [(2, .int r_1), (0, .ref qB), (1, .int x1)]) hx hb dX4_statesNamedAt_5 rfl hl (by decide) rfl (fun ls hl => ?_)
  refine lv_aload_n hx hb dX4_statesNamedAt_6 rfl (lv_at hl 1 rfl) ?_
  refine lv_iload_n hx hb dX4_statesNamedAt_7 rfl (lv_at hl 2 rfl) ?_
  obtain ⟨r_2, hc, hf⟩ := bd1_el hf
  refine cl_i (wc := (w_X4_outcomeAt cyI cyJ cyZ qB q_twos q_outs bCount twos outs)) (wr := []) (w1 := (w_X4_outcomeAt cyI cyJ cyZ qB q_twos q_outs bCount twos outs)) (w2 := (w_X4_statesNamedAt cyI cyJ cyZ qB q_twos q_outs bCount twos outs)) C0 (rn_V (As := [.int x1]) (rest := []) (wc := (w_X4_outcomeAt cyI cyJ cyZ qB q_twos q_outs bCount twos outs)) (X := X0) C0 (c_X4_outcomeAt l dC dI cyI cyJ cyZ qB q_twos q_outs H.size N x1 twos outs bCount r_2 hc) (cwV 1 hts gX4_statesNamedAt_X4_outcomeAt rfl rfl rfl (by decide +kernel) ⟨Nat.le_of_ble_eq_true rfl, Nat.le_of_ble_eq_true rfl⟩) X0_car trivial hP hD hS [0, 1, 2] rfl rfl 0 3 rfl rfl rfl hl.1 rfl (Nat.le_of_ble_eq_true rfl) dX4_statesNamedAt_8 ⟨Nat.le_of_ble_eq_true rfl, Nat.le_of_ble_eq_true rfl⟩) hP hD hS [0, 1, 2] [] [0, 1, 2] rfl rfl rfl (by decide) rfl rfl (fun H locs hP hD hS => ?_)
  refine lv_istore_n (lv' := [(3, .int r_2), (2, .int r_1), (0, .ref qB), (1, .int x1)]) hx hb dX4_statesNamedAt_11 rfl hl (by decide) rfl (fun ls hl => ?_)
  refine lv_iconst (v := 1) hx hb dX4_statesNamedAt_12 (by decide) ?_
  refine lv_iload_n hx hb dX4_statesNamedAt_13 rfl (lv_at hl 1 rfl) ?_
  obtain ⟨r_3, hc, hf⟩ := bd1_el hf
  refine cl_i (wc := (w_X5_first cyI cyJ cyZ)) (wr := [(qB, .inr (3, [.ref q_twos, .ref q_outs, .int bCount])), (q_twos, .inl (cyI, 12, .inl twos)), (q_outs, .inl (cyI, 36, .inl outs))]) (w1 := (w_X5_first cyI cyJ cyZ)) (w2 := (w_X4_statesNamedAt cyI cyJ cyZ qB q_twos q_outs bCount twos outs)) C0 (rn_S (As := [.int r_1]) (rest := [.int 1]) (wc := (w_X5_first cyI cyJ cyZ)) (X := X0) C0 (c_X5_first l dC dI cyI cyJ cyZ H.size N r_1 r_3 hc) (va_cwS 1 hts gX4_statesNamedAt_X5_first rfl rfl rfl (by decide +kernel) ⟨Nat.le_of_ble_eq_true rfl, Nat.le_of_ble_eq_true rfl⟩) X0_car trivial hP hD hS [] rfl rfl rfl hl.1 rfl (Nat.le_of_ble_eq_true rfl) dX4_statesNamedAt_14 ⟨Nat.le_of_ble_eq_true rfl, Nat.le_of_ble_eq_true rfl⟩) hP hD hS [] [0, 1, 2] [0, 1, 2] rfl rfl rfl (by decide) rfl rfl (fun H locs hP hD hS => ?_)
  refine lv_ishl hx hb dX4_statesNamedAt_17 ?_
  refine lv_iconst (v := 1) hx hb dX4_statesNamedAt_18 (by decide) ?_
  refine lv_iload_n hx hb dX4_statesNamedAt_19 rfl (lv_at hl 1 rfl) ?_
  obtain ⟨r_4, hc, hf⟩ := bd1_el hf
  refine cl_i (wc := (w_X5_second cyI cyJ cyZ)) (wr := [(qB, .inr (3, [.ref q_twos, .ref q_outs, .int bCount])), (q_twos, .inl (cyI, 12, .inl twos)), (q_outs, .inl (cyI, 36, .inl outs))]) (w1 := (w_X5_second cyI cyJ cyZ)) (w2 := (w_X4_statesNamedAt cyI cyJ cyZ qB q_twos q_outs bCount twos outs)) C0 (rn_S (As := [.int r_1]) (rest := [.int 1, .int (1 <<< (r_3 &&& 31))]) (wc := (w_X5_second cyI cyJ cyZ)) (X := X0) C0 (c_X5_second l dC dI cyI cyJ cyZ H.size N r_1 r_4 hc) (va_cwS 1 hts gX4_statesNamedAt_X5_second rfl rfl rfl (by decide +kernel) ⟨Nat.le_of_ble_eq_true rfl, Nat.le_of_ble_eq_true rfl⟩) X0_car trivial hP hD hS [] rfl rfl rfl hl.1 rfl (Nat.le_of_ble_eq_true rfl) dX4_statesNamedAt_20 ⟨Nat.le_of_ble_eq_true rfl, Nat.le_of_ble_eq_true rfl⟩) hP hD hS [] [0, 1, 2] [0, 1, 2] rfl rfl rfl (by decide) rfl rfl (fun H locs hP hD hS => ?_)
  refine lv_ishl hx hb dX4_statesNamedAt_23 ?_
  refine lv_ior hx hb dX4_statesNamedAt_24 ?_
  refine lv_iconst (v := 1) hx hb dX4_statesNamedAt_25 (by decide) ?_
  refine lv_iload_n hx hb dX4_statesNamedAt_26 rfl (lv_at hl 0 rfl) ?_
  obtain ⟨r_5, hc, hf⟩ := bd1_el hf
  refine cl_i (wc := (w_X5_first cyI cyJ cyZ)) (wr := [(qB, .inr (3, [.ref q_twos, .ref q_outs, .int bCount])), (q_twos, .inl (cyI, 12, .inl twos)), (q_outs, .inl (cyI, 36, .inl outs))]) (w1 := (w_X5_first cyI cyJ cyZ)) (w2 := (w_X4_statesNamedAt cyI cyJ cyZ qB q_twos q_outs bCount twos outs)) C0 (rn_S (As := [.int r_2]) (rest := [.int 1, .int ((1 <<< (r_3 &&& 31)) ||| (1 <<< (r_4 &&& 31)))]) (wc := (w_X5_first cyI cyJ cyZ)) (X := X0) C0 (c_X5_first l dC dI cyI cyJ cyZ H.size N r_2 r_5 hc) (va_cwS 1 hts gX4_statesNamedAt_X5_first rfl rfl rfl (by decide +kernel) ⟨Nat.le_of_ble_eq_true rfl, Nat.le_of_ble_eq_true rfl⟩) X0_car trivial hP hD hS [] rfl rfl rfl hl.1 rfl (Nat.le_of_ble_eq_true rfl) dX4_statesNamedAt_27 ⟨Nat.le_of_ble_eq_true rfl, Nat.le_of_ble_eq_true rfl⟩) hP hD hS [] [0, 1, 2] [0, 1, 2] rfl rfl rfl (by decide) rfl rfl (fun H locs hP hD hS => ?_)
  refine lv_ishl hx hb dX4_statesNamedAt_30 ?_
  refine lv_ior hx hb dX4_statesNamedAt_31 ?_
  refine lv_iconst (v := 1) hx hb dX4_statesNamedAt_32 (by decide) ?_
  refine lv_iload_n hx hb dX4_statesNamedAt_33 rfl (lv_at hl 0 rfl) ?_
  obtain ⟨r_6, hc, hf⟩ := bd1_el hf
  refine cl_i (wc := (w_X5_second cyI cyJ cyZ)) (wr := [(qB, .inr (3, [.ref q_twos, .ref q_outs, .int bCount])), (q_twos, .inl (cyI, 12, .inl twos)), (q_outs, .inl (cyI, 36, .inl outs))]) (w1 := (w_X5_second cyI cyJ cyZ)) (w2 := (w_X4_statesNamedAt cyI cyJ cyZ qB q_twos q_outs bCount twos outs)) C0 (rn_S (As := [.int r_2]) (rest := [.int 1, .int (((1 <<< (r_3 &&& 31)) ||| (1 <<< (r_4 &&& 31))) ||| (1 <<< (r_5 &&& 31)))]) (wc := (w_X5_second cyI cyJ cyZ)) (X := X0) C0 (c_X5_second l dC dI cyI cyJ cyZ H.size N r_2 r_6 hc) (va_cwS 1 hts gX4_statesNamedAt_X5_second rfl rfl rfl (by decide +kernel) ⟨Nat.le_of_ble_eq_true rfl, Nat.le_of_ble_eq_true rfl⟩) X0_car trivial hP hD hS [] rfl rfl rfl hl.1 rfl (Nat.le_of_ble_eq_true rfl) dX4_statesNamedAt_34 ⟨Nat.le_of_ble_eq_true rfl, Nat.le_of_ble_eq_true rfl⟩) hP hD hS [] [0, 1, 2] [0, 1, 2] rfl rfl rfl (by decide) rfl rfl (fun H locs hP hD hS => ?_)
  refine lv_ishl hx hb dX4_statesNamedAt_37 ?_
  refine lv_ior hx hb dX4_statesNamedAt_38 ?_
  cases hf
  exact W.iret hx hb hr (fun t ht hW => ⟨⟨_, (), rfl, rfl, by rw [ht]; exact hP, va_K.moved hW.alike hK, hD⟩, hS.F ht⟩) hS.2.2 dX4_statesNamedAt_39
set_option maxHeartbeats 4000000 in
set_option maxRecDepth 100000 in
theorem c_X4_statesNamedAt (l : Launch) (dC : Nat → ClassId) (dI : Nat → Nat → Nat) (cyI cyJ cyZ : ClassId) (qB q_twos q_outs : Nat) (sz N : Nat) (x1 : Int32) (twos : Nat → Int32) (outs : Nat → Int32) (bCount : Int32) (r9 : Int32) (hf : f_X4_statesNamedAt N x1 twos outs = some r9) : Met l yX4_statesNamedAt wsX4_statesNamedAt rm_X4_statesNamedAt (Pz dC dI cyI cyJ cyZ [.ref qB, .int x1] sz (w_X4_statesNamedAt cyI cyJ cyZ qB q_twos q_outs bCount twos outs) X0) (Qzi dC dI cyI cyJ cyZ (va_A (w_X4_statesNamedAt cyI cyJ cyZ qB q_twos q_outs bCount twos outs) sz) (w_X4_statesNamedAt cyI cyJ cyZ qB q_twos q_outs bCount twos outs) r9) 0 0 (va_A (w_X4_statesNamedAt cyI cyJ cyZ qB q_twos q_outs bCount twos outs) sz) := by
  refine Met_of (cc := cX4_statesNamedAt) (maxL := 4) (ret := (some .int)) (by decide) rfl (Nat.le_of_ble_eq_true rfl) ?_
  intro p e s m args below meth c ls C0 hsz hXs hP hD hS hl
  exact t_X4_statesNamedAt C0 hXs hf s.heap [] ls hP hD hS hl
abbrev w_X1_agreement_told (cyI cyJ cyZ : ClassId) (q_told : Nat) (told : Nat → Int32) : va_W := [(q_told, .inl (cyI, 6, .inl told))]
abbrev rm_X1_agreement_told : Room := { frames := 1, cells := 0, slots := 0, locals := 21 }
def f_X1_agreement_told_j35 (N : Nat) (x0 : Int32) (x3 : Int32) (told : Nat → Int32) : Option ((Int32 × Int32) ⊕ ((Int32) ⊕ (Int32))) :=
  gd (inb x3 6) (nm (told x3.toNatClampNeg) (fun x2_7 => nm (x3 + 1) (fun x3_8 => some (Sum.inl (x2_7, x3_8)))))
set_option maxHeartbeats 4000000 in
set_option maxRecDepth 100000 in
theorem t_X1_agreement_told_j35 (C0 : Cx p s m args meth c cX1_agreement (some .int) 4 RX1 wsX1_agreement A dC dI cyI cyJ cyZ) {q_told : Nat} (hXs : X0 A s) {N : Nat} {x0 : Int32} {x3 : Int32} {told : Nat → Int32} {r9 : Int32} {r : (Int32 × Int32) ⊕ ((Int32) ⊕ (Int32))} (hf : f_X1_agreement_told_j35 N x0 x3 told = some r) (Kh : ∀ (zx2 : Int32) (zx3 : Int32), r = Sum.inl (zx2, zx3) → ∀ (H : Heap) (locs : List Loc) (ls : Array Slot), va_P (dC, dI) vwCl (w_X1_agreement_told cyI cyJ cyZ q_told told) H → va_D A (w_X1_agreement_told cyI cyJ cyZ q_told told) → va_S A s.heap H locs → lv_has ls 4 [(0, .int x0), (1, .ref q_told), (2, .int zx2), (3, .int zx3)] → W p l e rm_X1_agreement_told s m args below meth c H locs 0 0 (MQ below (Qzi dC dI cyI cyJ cyZ A (w_X1_agreement_told cyI cyJ cyZ q_told told) r9) args s 0 0 A) (F0 m 5 ls [])) (Ke : ∀ (zx2 : Int32), r = Sum.inr (Sum.inr zx2) → ∀ (H : Heap) (locs : List Loc) (ls : Array Slot), va_P (dC, dI) vwCl (w_X1_agreement_told cyI cyJ cyZ q_told told) H → va_D A (w_X1_agreement_told cyI cyJ cyZ q_told told) → va_S A s.heap H locs → lv_has ls 4 [(2, .int zx2)] → W p l e rm_X1_agreement_told s m args below meth c H locs 0 0 (MQ below (Qzi dC dI cyI cyJ cyZ A (w_X1_agreement_told cyI cyJ cyZ q_told told) r9) args s 0 0 A) (F0 m 45 ls [])) (Kr : ∀ x9 : Int32, r = Sum.inr (Sum.inl x9) → x9 = r9) (H : Heap) (locs : List Loc) (ls : Array Slot) (hP : va_P (dC, dI) vwCl (w_X1_agreement_told cyI cyJ cyZ q_told told) H) (hD : va_D A (w_X1_agreement_told cyI cyJ cyZ q_told told)) (hS : va_S A s.heap H locs) (hl : lv_has ls 4 [(0, .int x0), (1, .ref q_told), (3, .int x3)]) : W p l e rm_X1_agreement_told s m args below meth c H locs 0 0 (MQ below (Qzi dC dI cyI cyJ cyZ A (w_X1_agreement_told cyI cyJ cyZ q_told told) r9) args s 0 0 A) (F0 m 35 ls []) := by
  have C1 := C0
  obtain ⟨hx, hb, hr, hlocks, hml, hown, hts, hA, hK⟩ := C1
  unfold f_X1_agreement_told_j35 at hf
  refine lv_aload_n hx hb dX1_agreement_35 rfl (lv_at hl 1 rfl) ?_
  refine lv_iload_n hx hb dX1_agreement_36 rfl (lv_at hl 2 rfl) ?_
  obtain ⟨h_6, hf⟩ := gd_el hf
  refine va_iald hx hb hK hP 0 0 rfl rfl (inb_in h_6) dX1_agreement_37 ?_
  obtain ⟨x2_7, e_7, hf⟩ := nm_el hf
  refine top_i e_7 ?_
  refine lv_istore_n (lv' := [(2, .int x2_7), (0, .int x0), (1, .ref q_told), (3, .int x3)]) hx hb dX1_agreement_38 rfl hl (by decide) rfl (fun ls hl => ?_)
  obtain ⟨x3_8, e_8, hf⟩ := nm_el hf
  refine lv_iinc (v := x3_8) (lv' := [(3, .int x3_8), (2, .int x2_7), (0, .int x0), (1, .ref q_told)]) hx hb dX1_agreement_39 hl (k := 3) rfl (by rw [e_8]; rfl) (by decide) rfl (fun ls hl => ?_)
  refine lv_goto (tgt := 5) hx hb dX1_agreement_42 (by decide) ?_
  exact Kh _ _ (Option.some.inj hf).symm H locs ls hP hD hS (lv_sub hl [2, 3, 1, 0] rfl)
def f_X1_agreement_told_b5 (N : Nat) (x0 : Int32) (told : Nat → Int32) (x2 : Int32) (x3 : Int32) : Option ((Int32 × Int32) ⊕ ((Int32) ⊕ (Int32))) :=
  (if 6 ≤ x3 then some (Sum.inr (Sum.inr x2)) else bd1 (f_X1_countIn N x0 x3) (fun r_2 => (if r_2 ≤ 0 then nm (x3 + 1) (fun x3_4 => some (Sum.inl (x2, x3_4))) else (if x2 = (-9) then f_X1_agreement_told_j35 N x0 x3 told else gd (inb x3 6) ((if x2 = (told x3.toNatClampNeg) then f_X1_agreement_told_j35 N x0 x3 told else some (Sum.inr (Sum.inl ((-9))))))))))
set_option maxHeartbeats 4000000 in
set_option maxRecDepth 100000 in
theorem t_X1_agreement_told_b5 (C0 : Cx p s m args meth c cX1_agreement (some .int) 4 RX1 wsX1_agreement A dC dI cyI cyJ cyZ) {q_told : Nat} (hXs : X0 A s) {N : Nat} {x0 : Int32} {told : Nat → Int32} {x2 : Int32} {x3 : Int32} {r9 : Int32} {r : (Int32 × Int32) ⊕ ((Int32) ⊕ (Int32))} (hf : f_X1_agreement_told_b5 N x0 told x2 x3 = some r) (Kh : ∀ (zx2 : Int32) (zx3 : Int32), r = Sum.inl (zx2, zx3) → ∀ (H : Heap) (locs : List Loc) (ls : Array Slot), va_P (dC, dI) vwCl (w_X1_agreement_told cyI cyJ cyZ q_told told) H → va_D A (w_X1_agreement_told cyI cyJ cyZ q_told told) → va_S A s.heap H locs → lv_has ls 4 [(0, .int x0), (1, .ref q_told), (2, .int zx2), (3, .int zx3)] → W p l e rm_X1_agreement_told s m args below meth c H locs 0 0 (MQ below (Qzi dC dI cyI cyJ cyZ A (w_X1_agreement_told cyI cyJ cyZ q_told told) r9) args s 0 0 A) (F0 m 5 ls [])) (Ke : ∀ (zx2 : Int32), r = Sum.inr (Sum.inr zx2) → ∀ (H : Heap) (locs : List Loc) (ls : Array Slot), va_P (dC, dI) vwCl (w_X1_agreement_told cyI cyJ cyZ q_told told) H → va_D A (w_X1_agreement_told cyI cyJ cyZ q_told told) → va_S A s.heap H locs → lv_has ls 4 [(2, .int zx2)] → W p l e rm_X1_agreement_told s m args below meth c H locs 0 0 (MQ below (Qzi dC dI cyI cyJ cyZ A (w_X1_agreement_told cyI cyJ cyZ q_told told) r9) args s 0 0 A) (F0 m 45 ls [])) (Kr : ∀ x9 : Int32, r = Sum.inr (Sum.inl x9) → x9 = r9) (H : Heap) (locs : List Loc) (ls : Array Slot) (hP : va_P (dC, dI) vwCl (w_X1_agreement_told cyI cyJ cyZ q_told told) H) (hD : va_D A (w_X1_agreement_told cyI cyJ cyZ q_told told)) (hS : va_S A s.heap H locs) (hl : lv_has ls 4 [(0, .int x0), (1, .ref q_told), (2, .int x2), (3, .int x3)]) : W p l e rm_X1_agreement_told s m args below meth c H locs 0 0 (MQ below (Qzi dC dI cyI cyJ cyZ A (w_X1_agreement_told cyI cyJ cyZ q_told told) r9) args s 0 0 A) (F0 m 5 ls []) := by
  have C1 := C0
  obtain ⟨hx, hb, hr, hlocks, hml, hown, hts, hA, hK⟩ := C1
  unfold f_X1_agreement_told_b5 at hf
  refine lv_iload_n hx hb dX1_agreement_5 rfl (lv_at hl 3 rfl) ?_
  refine lv_bipush (v := 6) hx hb dX1_agreement_6 (by decide) ?_
  refine lv_icmp_ge (tgt := 45) hx hb dX1_agreement_8 (by decide) (fun c_1 => ?_) (fun c_1 => ?_)
  · replace hf := it_t hf c_1
    exact Ke _ (Option.some.inj hf).symm H locs ls hP hD hS (lv_sub hl [2] rfl)
  · replace hf := it_f hf c_1
    refine lv_iload_n hx hb dX1_agreement_11 rfl (lv_at hl 0 rfl) ?_
    refine lv_iload_n hx hb dX1_agreement_12 rfl (lv_at hl 3 rfl) ?_
    obtain ⟨r_2, hc, hf⟩ := bd1_el hf
    refine cl_i (wc := (w_X1_countIn cyI cyJ cyZ)) (wr := [(q_told, .inl (cyI, 6, .inl told))]) (w1 := (w_X1_countIn cyI cyJ cyZ)) (w2 := (w_X1_agreement_told cyI cyJ cyZ q_told told)) C0 (rn_S (As := [.int x0, .int x3]) (rest := []) (wc := (w_X1_countIn cyI cyJ cyZ)) (X := X0) C0 (c_X1_countIn l dC dI cyI cyJ cyZ H.size N x0 x3 r_2 hc) (va_cwS 2 hts gX1_agreement_X1_countIn rfl rfl rfl (by decide +kernel) ⟨Nat.le_of_ble_eq_true rfl, Nat.le_of_ble_eq_true rfl⟩) X0_car trivial hP hD hS [] rfl rfl rfl hl.1 rfl (Nat.le_of_ble_eq_true rfl) dX1_agreement_13 ⟨Nat.le_of_ble_eq_true rfl, Nat.le_of_ble_eq_true rfl⟩) hP hD hS [] [0] [0] rfl rfl rfl (by decide) rfl rfl (fun H locs hP hD hS => ?_)
    refine lv_if_le (tgt := 39) hx hb dX1_agreement_16 (by decide) (fun c_3 => ?_) (fun c_3 => ?_)
    · replace hf := it_t hf c_3
      obtain ⟨x3_4, e_4, hf⟩ := nm_el hf
      refine lv_iinc (v := x3_4) (lv' := [(3, .int x3_4), (0, .int x0), (1, .ref q_told), (2, .int x2)]) hx hb dX1_agreement_39 hl (k := 3) rfl (by rw [e_4]; rfl) (by decide) rfl (fun ls hl => ?_)
      refine lv_goto (tgt := 5) hx hb dX1_agreement_42 (by decide) ?_
      exact Kh _ _ (Option.some.inj hf).symm H locs ls hP hD hS (lv_sub hl [1, 2, 3, 0] rfl)
    · replace hf := it_f hf c_3
      refine lv_iload_n hx hb dX1_agreement_19 rfl (lv_at hl 2 rfl) ?_
      refine lv_bipush (v := (-9)) hx hb dX1_agreement_20 (by decide) ?_
      refine lv_icmp_eq (tgt := 35) hx hb dX1_agreement_22 (by decide) (fun c_5 => ?_) (fun c_5 => ?_)
      · replace hf := it_t hf c_5
        exact t_X1_agreement_told_j35 C0 hXs hf Kh Ke Kr H locs ls hP hD hS (lv_sub hl [0, 1, 3] rfl)
      · replace hf := it_f hf c_5
        refine lv_iload_n hx hb dX1_agreement_25 rfl (lv_at hl 2 rfl) ?_
        refine lv_aload_n hx hb dX1_agreement_26 rfl (lv_at hl 1 rfl) ?_
        refine lv_iload_n hx hb dX1_agreement_27 rfl (lv_at hl 3 rfl) ?_
        obtain ⟨h_9, hf⟩ := gd_el hf
        refine va_iald hx hb hK hP 0 0 rfl rfl (inb_in h_9) dX1_agreement_28 ?_
        refine lv_icmp_eq (tgt := 35) hx hb dX1_agreement_29 (by decide) (fun c_10 => ?_) (fun c_10 => ?_)
        · replace hf := it_t hf c_10
          exact t_X1_agreement_told_j35 C0 hXs hf Kh Ke Kr H locs ls hP hD hS (lv_sub hl [0, 1, 3] rfl)
        · replace hf := it_f hf c_10
          refine lv_bipush (v := (-9)) hx hb dX1_agreement_32 (by decide) ?_
          cases Kr _ (Option.some.inj hf).symm
          exact W.iret hx hb hr (fun t ht hW => ⟨⟨_, (), rfl, rfl, by rw [ht]; exact hP, va_K.moved hW.alike hK, hD⟩, hS.F ht⟩) hS.2.2 dX1_agreement_34
set_option maxHeartbeats 4000000 in
set_option maxRecDepth 100000 in
theorem l_X1_agreement_told_b5 (C0 : Cx p s m args meth c cX1_agreement (some .int) 4 RX1 wsX1_agreement A dC dI cyI cyJ cyZ) {q_told : Nat} (hXs : X0 A s) {N : Nat} {x0 : Int32} {told : Nat → Int32} {r9 : Int32} {z : (Int32) ⊕ (Int32)} (Ke : ∀ (zx2 : Int32), z = Sum.inr zx2 → ∀ (H : Heap) (locs : List Loc) (ls : Array Slot), va_P (dC, dI) vwCl (w_X1_agreement_told cyI cyJ cyZ q_told told) H → va_D A (w_X1_agreement_told cyI cyJ cyZ q_told told) → va_S A s.heap H locs → lv_has ls 4 [(2, .int zx2)] → W p l e rm_X1_agreement_told s m args below meth c H locs 0 0 (MQ below (Qzi dC dI cyI cyJ cyZ A (w_X1_agreement_told cyI cyJ cyZ q_told told) r9) args s 0 0 A) (F0 m 45 ls [])) (Kr : ∀ x9 : Int32, z = Sum.inl x9 → x9 = r9) : ∀ (n9 : Nat) (x2 : Int32) (x3 : Int32), loopN (fun (w9 : Int32 × Int32) => f_X1_agreement_told_b5 N x0 told w9.1 w9.2) n9 (x2, x3) = some z → ∀ (H : Heap) (locs : List Loc) (ls : Array Slot), va_P (dC, dI) vwCl (w_X1_agreement_told cyI cyJ cyZ q_told told) H → va_D A (w_X1_agreement_told cyI cyJ cyZ q_told told) → va_S A s.heap H locs → lv_has ls 4 [(0, .int x0), (1, .ref q_told), (2, .int x2), (3, .int x3)] → W p l e rm_X1_agreement_told s m args below meth c H locs 0 0 (MQ below (Qzi dC dI cyI cyJ cyZ A (w_X1_agreement_told cyI cyJ cyZ q_told told) r9) args s 0 0 A) (F0 m 5 ls []) := by
  intro n9
  induction n9 with
  | zero => intro _ _ h; cases h
  | succ n9 ih =>
    intro x2 x3 h H locs ls hP hD hS hl
    rcases loopN_el h with ⟨y9, h1, h2⟩ | h1
    · exact t_X1_agreement_told_b5 C0 hXs  h1 (fun zx2 zx3 q9 H locs ls hP hD hS hl => ih zx2 zx3 (by cases q9; exact h2) H locs ls hP hD hS hl) (fun _ q9 => by cases q9) (fun _ q9 => by cases q9) H locs ls hP hD hS hl
    · exact t_X1_agreement_told_b5 C0 hXs  h1 (fun _ _ q9 => by cases q9) (fun ex2 q9 => Ke ex2 (by cases q9; rfl)) (fun x9 q9 => Kr x9 (by cases q9; rfl)) H locs ls hP hD hS hl
def f_X1_agreement_told (N : Nat) (x0 : Int32) (told : Nat → Int32) : Option (Int32) :=
  bs1 (loopN (fun (w9 : Int32 × Int32) => f_X1_agreement_told_b5 N x0 told w9.1 w9.2) N ((-9), 0)) (fun x9 => some x9) (fun x2_11 => some x2_11)
set_option maxHeartbeats 4000000 in
set_option maxRecDepth 100000 in
theorem t_X1_agreement_told (C0 : Cx p s m args meth c cX1_agreement (some .int) 4 RX1 wsX1_agreement A dC dI cyI cyJ cyZ) {q_told : Nat} (hXs : X0 A s) {N : Nat} {x0 : Int32} {told : Nat → Int32} {r9 : Int32} (hf : f_X1_agreement_told N x0 told = some r9) (H : Heap) (locs : List Loc) (ls : Array Slot) (hP : va_P (dC, dI) vwCl (w_X1_agreement_told cyI cyJ cyZ q_told told) H) (hD : va_D A (w_X1_agreement_told cyI cyJ cyZ q_told told)) (hS : va_S A s.heap H locs) (hl : lv_has ls 4 [(0, .int x0), (1, .ref q_told)]) : W p l e rm_X1_agreement_told s m args below meth c H locs 0 0 (MQ below (Qzi dC dI cyI cyJ cyZ A (w_X1_agreement_told cyI cyJ cyZ q_told told) r9) args s 0 0 A) (F0 m 0 ls []) := by
  have C1 := C0
  obtain ⟨hx, hb, hr, hlocks, hml, hown, hts, hA, hK⟩ := C1
  unfold f_X1_agreement_told at hf
  refine lv_bipush (v := (-9)) hx hb dX1_agreement_0 (by decide) ?_
  refine lv_istore_n (lv' := [(2, .int (-9)), (0, .int x0), (1, .ref q_told)]) hx hb dX1_agreement_2 rfl hl (by decide) rfl (fun ls hl => ?_)
  refine lv_iconst (v := 0) hx hb dX1_agreement_3 (by decide) ?_
  refine lv_istore_n (lv' := [(3, .int 0), (2, .int (-9)), (0, .int x0), (1, .ref q_told)]) hx hb dX1_agreement_4 rfl hl (by decide) rfl (fun ls hl => ?_)
  rcases bs1_el hf with ⟨x9, hlp, hf⟩ | ⟨x2_11, hlp, hf⟩
  · exact l_X1_agreement_told_b5 C0 hXs (fun _ q9 => by cases q9) (fun x9 q9 => by cases q9; exact Option.some.inj hf) N _ _ hlp H locs ls hP hD hS (lv_sub hl [2, 3, 1, 0] rfl)
  refine l_X1_agreement_told_b5 C0 hXs (fun x2_11 q9 H locs ls hP hD hS hl => ?_) (fun _ q9 => by cases q9) N _ _ hlp H locs ls hP hD hS (lv_sub hl [2, 3, 1, 0] rfl)
  cases q9
  refine lv_iload_n hx hb dX1_agreement_45 rfl (lv_at hl 0 rfl) ?_
  cases hf
  exact W.iret hx hb hr (fun t ht hW => ⟨⟨_, (), rfl, rfl, by rw [ht]; exact hP, va_K.moved hW.alike hK, hD⟩, hS.F ht⟩) hS.2.2 dX1_agreement_46
set_option maxHeartbeats 4000000 in
set_option maxRecDepth 100000 in
theorem c_X1_agreement_told (l : Launch) (dC : Nat → ClassId) (dI : Nat → Nat → Nat) (cyI cyJ cyZ : ClassId) (q_told : Nat) (sz N : Nat) (x0 : Int32) (told : Nat → Int32) (r9 : Int32) (hf : f_X1_agreement_told N x0 told = some r9) : Met l yX1_agreement wsX1_agreement rm_X1_agreement_told (Pz dC dI cyI cyJ cyZ [.int x0, .ref q_told] sz (w_X1_agreement_told cyI cyJ cyZ q_told told) X0) (Qzi dC dI cyI cyJ cyZ (va_A (w_X1_agreement_told cyI cyJ cyZ q_told told) sz) (w_X1_agreement_told cyI cyJ cyZ q_told told) r9) 0 0 (va_A (w_X1_agreement_told cyI cyJ cyZ q_told told) sz) := by
  refine Met_of (cc := cX1_agreement) (maxL := 4) (ret := (some .int)) (by decide) rfl (Nat.le_of_ble_eq_true rfl) ?_
  intro p e s m args below meth c ls C0 hsz hXs hP hD hS hl
  exact t_X1_agreement_told C0 hXs hf s.heap [] ls hP hD hS hl
end
