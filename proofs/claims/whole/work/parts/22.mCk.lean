section
variable {p : Program} {l : Launch} {e : Env} {s : State} {m : MethodId} {args : Array Value} {below : List Frame} {meth : Method} {c : Code} {A : Nat → Prop} {dC : Nat → ClassId} {dI : Nat → Nat → Nat} {cyI cyJ cyZ : ClassId}
abbrev w_X6_countKept_trial (cyI cyJ cyZ : ClassId) (qB q_twos q_outs q_trial : Nat) (bCount : Int32) (trial : Nat → Int32) (twos : Nat → Int32) (outs : Nat → Int32) : va_W := [(qB, .inr (3, [.ref q_twos, .ref q_outs, .int bCount])), (q_trial, .inl (cyI, 6, .inl trial)), (q_twos, .inl (cyI, 12, .inl twos)), (q_outs, .inl (cyI, 36, .inl outs))]
abbrev rm_X6_countKept_trial (d : Nat) : Room := { frames := d + 4, cells := 0, slots := 0, locals := 25 * d + 91 }
def f_X6_countKept_trial_b35 (rec : Int32 → Int32 → Int32 → (Nat → Int32) → (Nat → Int32) → (Nat → Int32) → Option (Int32 × (Nat → Int32))) (N : Nat) (x2 : Int32) (x3 : Int32) (bCount : Int32) (twos : Nat → Int32) (outs : Nat → Int32) (x4 : Int32) (x5 : Int32) (trial : Nat → Int32) : Option ((Int32 × Int32 × (Nat → Int32)) ⊕ (Int32 × (Nat → Int32))) :=
  (if 2 < x5 then some (Sum.inr (x4, trial)) else gd (inb x2 6) (nm (upd trial x2.toNatClampNeg x5) (fun trial_5 => bd1 (f_X6_isKeptSoFar_trial N x2 bCount trial_5 twos outs) (fun r_6 => (if r_6 = 0 then nm (x5 + 1) (fun x5_8 => some (Sum.inl (x4, x5_8, trial_5))) else bd2 (rec (x2 + 1) x3 bCount trial_5 twos outs) (fun r_9 trial_10 => nm (x4 + r_9) (fun x4_11 => nm (x5 + 1) (fun x5_12 => some (Sum.inl (x4_11, x5_12, trial_10))))))))))
set_option maxHeartbeats 4000000 in
set_option maxRecDepth 100000 in
theorem t_X6_countKept_trial_b35 {dd : Nat} {rec : Int32 → Int32 → Int32 → (Nat → Int32) → (Nat → Int32) → (Nat → Int32) → Option (Int32 × (Nat → Int32))} (hrec : ∀ (qB q_twos q_outs q_trial : Nat) (sz : Nat) (x2 : Int32) (x3 : Int32) (bCount : Int32) (trial : Nat → Int32) (twos : Nat → Int32) (outs : Nat → Int32) (r9 : Int32) (trial9 : Nat → Int32), rec x2 x3 bCount trial twos outs = some (r9, trial9) → Met l yX6_countKept wsX6_countKept (rm_X6_countKept_trial dd) (Pz dC dI cyI cyJ cyZ [.ref qB, .ref q_trial, .int x2, .int x3] sz (w_X6_countKept_trial cyI cyJ cyZ qB q_twos q_outs q_trial bCount trial twos outs) X0) (Qzi dC dI cyI cyJ cyZ (va_A (w_X6_countKept_trial cyI cyJ cyZ qB q_twos q_outs q_trial bCount trial twos outs) sz) (w_X6_countKept_trial cyI cyJ cyZ qB q_twos q_outs q_trial bCount trial9 twos outs) r9) 0 0 (va_A (w_X6_countKept_trial cyI cyJ cyZ qB q_twos q_outs q_trial bCount trial twos outs) sz)) (C0 : Cx p s m args meth c cX6_countKept (some .int) 6 RX6 wsX6_countKept A dC dI cyI cyJ cyZ) {qB q_twos q_outs q_trial : Nat} (hXs : X0 A s) {N : Nat} {x2 : Int32} {x3 : Int32} {bCount : Int32} {twos : Nat → Int32} {outs : Nat → Int32} {x4 : Int32} {x5 : Int32} {trial : Nat → Int32} {r9 : Int32} {trial9 : Nat → Int32} {r : (Int32 × Int32 × (Nat → Int32)) ⊕ (Int32 × (Nat → Int32))} (hf : f_X6_countKept_trial_b35 rec N x2 x3 bCount twos outs x4 x5 trial = some r) (Kh : ∀ (zx4 : Int32) (zx5 : Int32) (ztrial : Nat → Int32), r = Sum.inl (zx4, zx5, ztrial) → ∀ (H : Heap) (locs : List Loc) (ls : Array Slot), va_P (dC, dI) vwCl (w_X6_countKept_trial cyI cyJ cyZ qB q_twos q_outs q_trial bCount ztrial twos outs) H → va_D A (w_X6_countKept_trial cyI cyJ cyZ qB q_twos q_outs q_trial bCount ztrial twos outs) → va_S A s.heap H locs → lv_has ls 6 [(0, .ref qB), (1, .ref q_trial), (2, .int x2), (3, .int x3), (4, .int zx4), (5, .int zx5)] → W p l e (rm_X6_countKept_trial (dd + 1)) s m args below meth c H locs 0 0 (MQ below (Qzi dC dI cyI cyJ cyZ A (w_X6_countKept_trial cyI cyJ cyZ qB q_twos q_outs q_trial bCount trial9 twos outs) r9) args s 0 0 A) (F0 m 35 ls [])) (Ke : ∀ (zx4 : Int32) (ztrial : Nat → Int32), r = Sum.inr (zx4, ztrial) → ∀ (H : Heap) (locs : List Loc) (ls : Array Slot), va_P (dC, dI) vwCl (w_X6_countKept_trial cyI cyJ cyZ qB q_twos q_outs q_trial bCount ztrial twos outs) H → va_D A (w_X6_countKept_trial cyI cyJ cyZ qB q_twos q_outs q_trial bCount ztrial twos outs) → va_S A s.heap H locs → lv_has ls 6 [(4, .int zx4)] → W p l e (rm_X6_countKept_trial (dd + 1)) s m args below meth c H locs 0 0 (MQ below (Qzi dC dI cyI cyJ cyZ A (w_X6_countKept_trial cyI cyJ cyZ qB q_twos q_outs q_trial bCount trial9 twos outs) r9) args s 0 0 A) (F0 m 75 ls [])) (H : Heap) (locs : List Loc) (ls : Array Slot) (hP : va_P (dC, dI) vwCl (w_X6_countKept_trial cyI cyJ cyZ qB q_twos q_outs q_trial bCount trial twos outs) H) (hD : va_D A (w_X6_countKept_trial cyI cyJ cyZ qB q_twos q_outs q_trial bCount trial twos outs)) (hS : va_S A s.heap H locs) (hl : lv_has ls 6 [(0, .ref qB), (1, .ref q_trial), (2, .int x2), (3, .int x3), (4, .int x4), (5, .int x5)]) : W p l e (rm_X6_countKept_trial (dd + 1)) s m args below meth c H locs 0 0 (MQ below (Qzi dC dI cyI cyJ cyZ A (w_X6_countKept_trial cyI cyJ cyZ qB q_twos q_outs q_trial bCount trial9 twos outs) r9) args s 0 0 A) (F0 m 35 ls []) := by
  have C1 := C0
  obtain ⟨hx, hb, hr, hlocks, hml, hown, hts, hA, hK⟩ := C1
  unfold f_X6_countKept_trial_b35 at hf
  refine lv_iload hx hb dX6_countKept_35 (lv_at hl 5 rfl) ?_
  refine lv_iconst (v := 2) hx hb dX6_countKept_37 (by decide) ?_
  refine lv_icmp_gt (tgt := 75) hx hb dX6_countKept_38 (by decide) (fun c_3 => ?_) (fun c_3 => ?_)
  · replace hf := it_t hf c_3
    exact Ke _ _ (Option.some.inj hf).symm H locs ls hP hD hS (lv_sub hl [4] rfl)
  · replace hf := it_f hf c_3
    refine lv_aload_n hx hb dX6_countKept_41 rfl (lv_at hl 1 rfl) ?_
    refine lv_iload_n hx hb dX6_countKept_42 rfl (lv_at hl 2 rfl) ?_
    refine lv_iload hx hb dX6_countKept_43 (lv_at hl 5 rfl) ?_
    obtain ⟨h_4, hf⟩ := gd_el hf
    obtain ⟨trial_5, e_5, hf⟩ := nm_el hf
    refine ast_i (w2 := (w_X6_countKept_trial cyI cyJ cyZ qB q_twos q_outs q_trial bCount trial_5 twos outs)) hx hb hK hP hD hS 1 0 rfl rfl (inb_in h_4) e_5 rfl dX6_countKept_45 (fun H locs hP hD hS => ?_)
    refine lv_aload_n hx hb dX6_countKept_46 rfl (lv_at hl 0 rfl) ?_
    refine lv_aload_n hx hb dX6_countKept_47 rfl (lv_at hl 1 rfl) ?_
    refine lv_iload_n hx hb dX6_countKept_48 rfl (lv_at hl 2 rfl) ?_
    obtain ⟨r_6, hc, hf⟩ := bd1_el hf
    refine cl_i (wc := (w_X6_isKeptSoFar_trial cyI cyJ cyZ qB q_twos q_outs q_trial bCount trial_5 twos outs)) (wr := []) (w1 := (w_X6_isKeptSoFar_trial cyI cyJ cyZ qB q_twos q_outs q_trial bCount trial_5 twos outs)) (w2 := (w_X6_countKept_trial cyI cyJ cyZ qB q_twos q_outs q_trial bCount trial_5 twos outs)) C0 (rn_S (As := [.ref qB, .ref q_trial, .int x2]) (rest := []) (wc := (w_X6_isKeptSoFar_trial cyI cyJ cyZ qB q_twos q_outs q_trial bCount trial_5 twos outs)) (X := X0) C0 (c_X6_isKeptSoFar_trial l dC dI cyI cyJ cyZ qB q_twos q_outs q_trial H.size N x2 bCount trial_5 twos outs r_6 hc) (va_cwS 3 hts gX6_countKept_X6_isKeptSoFar rfl rfl rfl (by decide +kernel) ⟨(by show _ ≤ dd + 1 + 4; dsimp only; omega), (by show _ ≤ 25 * (dd + 1) + 91; dsimp only; omega)⟩) X0_car trivial hP hD hS [0, 1, 2, 3] rfl rfl rfl hl.1 rfl (Nat.le_of_ble_eq_true rfl) dX6_countKept_49 ⟨Nat.le_of_ble_eq_true rfl, Nat.le_of_ble_eq_true rfl⟩) hP hD hS [0, 1, 2, 3] [] [0, 1, 2, 3] rfl rfl rfl (by decide) rfl rfl (fun H locs hP hD hS => ?_)
    refine lv_if_eq (tgt := 69) hx hb dX6_countKept_52 (by decide) (fun c_7 => ?_) (fun c_7 => ?_)
    · replace hf := it_t hf c_7
      obtain ⟨x5_8, e_8, hf⟩ := nm_el hf
      refine lv_iinc (v := x5_8) (lv' := [(5, .int x5_8), (0, .ref qB), (1, .ref q_trial), (2, .int x2), (3, .int x3), (4, .int x4)]) hx hb dX6_countKept_69 hl (k := 5) rfl (by rw [e_8]; rfl) (by decide) rfl (fun ls hl => ?_)
      refine lv_goto (tgt := 35) hx hb dX6_countKept_72 (by decide) ?_
      exact Kh _ _ _ (Option.some.inj hf).symm H locs ls hP hD hS (lv_sub hl [1, 2, 3, 4, 5, 0] rfl)
    · replace hf := it_f hf c_7
      refine lv_iload hx hb dX6_countKept_55 (lv_at hl 4 rfl) ?_
      refine lv_aload_n hx hb dX6_countKept_57 rfl (lv_at hl 0 rfl) ?_
      refine lv_aload_n hx hb dX6_countKept_58 rfl (lv_at hl 1 rfl) ?_
      refine lv_iload_n hx hb dX6_countKept_59 rfl (lv_at hl 2 rfl) ?_
      refine lv_iconst (v := 1) hx hb dX6_countKept_60 (by decide) ?_
      refine lv_iadd hx hb dX6_countKept_61 ?_
      refine lv_iload_n hx hb dX6_countKept_62 rfl (lv_at hl 3 rfl) ?_
      obtain ⟨r_9, trial_10, hc, hf⟩ := bd2_el hf
      refine cl_i (wc := (w_X6_countKept_trial cyI cyJ cyZ qB q_twos q_outs q_trial bCount trial_5 twos outs)) (wr := []) (w1 := (w_X6_countKept_trial cyI cyJ cyZ qB q_twos q_outs q_trial bCount trial_10 twos outs)) (w2 := (w_X6_countKept_trial cyI cyJ cyZ qB q_twos q_outs q_trial bCount trial_10 twos outs)) C0 (rn_S (As := [.ref qB, .ref q_trial, .int (x2 + 1), .int x3]) (rest := [.int x4]) (wc := (w_X6_countKept_trial cyI cyJ cyZ qB q_twos q_outs q_trial bCount trial_5 twos outs)) (X := X0) C0 (hrec qB q_twos q_outs q_trial H.size (x2 + 1) x3 bCount trial_5 twos outs r_9 trial_10 hc) (va_cwS 4 hts gX6_countKept_X6_countKept rfl rfl rfl (by decide +kernel) ⟨(by show _ ≤ dd + 1 + 4; dsimp only; omega), (by show _ ≤ 25 * (dd + 1) + 91; dsimp only; omega)⟩) X0_car trivial hP hD hS [0, 1, 2, 3] rfl rfl rfl hl.1 rfl (Nat.le_of_ble_eq_true rfl) dX6_countKept_63 ⟨Nat.le_of_ble_eq_true rfl, Nat.le_of_ble_eq_true rfl⟩) hP hD hS [0, 1, 2, 3] [] [0, 1, 2, 3] rfl rfl rfl (by decide) rfl rfl (fun H locs hP hD hS => ?_)
      refine lv_iadd hx hb dX6_countKept_66 ?_
      obtain ⟨x4_11, e_11, hf⟩ := nm_el hf
      refine top_i e_11 ?_
      refine lv_istore (lv' := [(4, .int x4_11), (0, .ref qB), (1, .ref q_trial), (2, .int x2), (3, .int x3), (5, .int x5)]) hx hb dX6_countKept_67 hl (by decide) rfl (fun ls hl => ?_)
      obtain ⟨x5_12, e_12, hf⟩ := nm_el hf
      refine lv_iinc (v := x5_12) (lv' := [(5, .int x5_12), (4, .int x4_11), (0, .ref qB), (1, .ref q_trial), (2, .int x2), (3, .int x3)]) hx hb dX6_countKept_69 hl (k := 5) rfl (by rw [e_12]; rfl) (by decide) rfl (fun ls hl => ?_)
      refine lv_goto (tgt := 35) hx hb dX6_countKept_72 (by decide) ?_
      exact Kh _ _ _ (Option.some.inj hf).symm H locs ls hP hD hS (lv_sub hl [2, 3, 4, 5, 1, 0] rfl)
set_option maxHeartbeats 4000000 in
set_option maxRecDepth 100000 in
theorem l_X6_countKept_trial_b35 {dd : Nat} {rec : Int32 → Int32 → Int32 → (Nat → Int32) → (Nat → Int32) → (Nat → Int32) → Option (Int32 × (Nat → Int32))} (hrec : ∀ (qB q_twos q_outs q_trial : Nat) (sz : Nat) (x2 : Int32) (x3 : Int32) (bCount : Int32) (trial : Nat → Int32) (twos : Nat → Int32) (outs : Nat → Int32) (r9 : Int32) (trial9 : Nat → Int32), rec x2 x3 bCount trial twos outs = some (r9, trial9) → Met l yX6_countKept wsX6_countKept (rm_X6_countKept_trial dd) (Pz dC dI cyI cyJ cyZ [.ref qB, .ref q_trial, .int x2, .int x3] sz (w_X6_countKept_trial cyI cyJ cyZ qB q_twos q_outs q_trial bCount trial twos outs) X0) (Qzi dC dI cyI cyJ cyZ (va_A (w_X6_countKept_trial cyI cyJ cyZ qB q_twos q_outs q_trial bCount trial twos outs) sz) (w_X6_countKept_trial cyI cyJ cyZ qB q_twos q_outs q_trial bCount trial9 twos outs) r9) 0 0 (va_A (w_X6_countKept_trial cyI cyJ cyZ qB q_twos q_outs q_trial bCount trial twos outs) sz)) (C0 : Cx p s m args meth c cX6_countKept (some .int) 6 RX6 wsX6_countKept A dC dI cyI cyJ cyZ) {qB q_twos q_outs q_trial : Nat} (hXs : X0 A s) {N : Nat} {x2 : Int32} {x3 : Int32} {bCount : Int32} {twos : Nat → Int32} {outs : Nat → Int32} {r9 : Int32} {trial9 : Nat → Int32} {z : Int32 × (Nat → Int32)} (Ke : ∀ (zx4 : Int32) (ztrial : Nat → Int32), z = (zx4, ztrial) → ∀ (H : Heap) (locs : List Loc) (ls : Array Slot), va_P (dC, dI) vwCl (w_X6_countKept_trial cyI cyJ cyZ qB q_twos q_outs q_trial bCount ztrial twos outs) H → va_D A (w_X6_countKept_trial cyI cyJ cyZ qB q_twos q_outs q_trial bCount ztrial twos outs) → va_S A s.heap H locs → lv_has ls 6 [(4, .int zx4)] → W p l e (rm_X6_countKept_trial (dd + 1)) s m args below meth c H locs 0 0 (MQ below (Qzi dC dI cyI cyJ cyZ A (w_X6_countKept_trial cyI cyJ cyZ qB q_twos q_outs q_trial bCount trial9 twos outs) r9) args s 0 0 A) (F0 m 75 ls [])) : ∀ (n9 : Nat) (x4 : Int32) (x5 : Int32) (trial : Nat → Int32), loopN (fun (w9 : Int32 × Int32 × (Nat → Int32)) => f_X6_countKept_trial_b35 rec N x2 x3 bCount twos outs w9.1 w9.2.1 w9.2.2) n9 (x4, x5, trial) = some z → ∀ (H : Heap) (locs : List Loc) (ls : Array Slot), va_P (dC, dI) vwCl (w_X6_countKept_trial cyI cyJ cyZ qB q_twos q_outs q_trial bCount trial twos outs) H → va_D A (w_X6_countKept_trial cyI cyJ cyZ qB q_twos q_outs q_trial bCount trial twos outs) → va_S A s.heap H locs → lv_has ls 6 [(0, .ref qB), (1, .ref q_trial), (2, .int x2), (3, .int x3), (4, .int x4), (5, .int x5)] → W p l e (rm_X6_countKept_trial (dd + 1)) s m args below meth c H locs 0 0 (MQ below (Qzi dC dI cyI cyJ cyZ A (w_X6_countKept_trial cyI cyJ cyZ qB q_twos q_outs q_trial bCount trial9 twos outs) r9) args s 0 0 A) (F0 m 35 ls []) := by
  intro n9
  induction n9 with
  | zero => intro _ _ _ h; cases h
  | succ n9 ih =>
    intro x4 x5 trial h H locs ls hP hD hS hl
    rcases loopN_el h with ⟨y9, h1, h2⟩ | h1
    · exact t_X6_countKept_trial_b35 hrec C0 hXs  h1 (fun zx4 zx5 ztrial q9 H locs ls hP hD hS hl => ih zx4 zx5 ztrial (by cases q9; exact h2) H locs ls hP hD hS hl) (fun _ _ q9 => by cases q9) H locs ls hP hD hS hl
    · exact t_X6_countKept_trial_b35 hrec C0 hXs  h1 (fun _ _ _ q9 => by cases q9) (fun ex4 etrial q9 => Ke ex4 etrial (by cases q9; rfl)) H locs ls hP hD hS hl
def f_X6_countKept_trial (rec : Int32 → Int32 → Int32 → (Nat → Int32) → (Nat → Int32) → (Nat → Int32) → Option (Int32 × (Nat → Int32))) (N : Nat) (x2 : Int32) (x3 : Int32) (bCount : Int32) (trial : Nat → Int32) (twos : Nat → Int32) (outs : Nat → Int32) : Option (Int32 × (Nat → Int32)) :=
  (if x2 < 6 then (if ((x3 >>> (x2 &&& 31)) &&& 1) = 0 then bd2 (rec (x2 + 1) x3 bCount trial twos outs) (fun r_15 trial_16 => some (5 * r_15, trial_16)) else bd2 (loopN (fun (w9 : Int32 × Int32 × (Nat → Int32)) => f_X6_countKept_trial_b35 rec N x2 x3 bCount twos outs w9.1 w9.2.1 w9.2.2) N (0, (-2), trial)) (fun x4_13 trial_14 => some (x4_13, trial_14))) else some (1, trial))
set_option maxHeartbeats 4000000 in
set_option maxRecDepth 100000 in
theorem t_X6_countKept_trial {dd : Nat} {rec : Int32 → Int32 → Int32 → (Nat → Int32) → (Nat → Int32) → (Nat → Int32) → Option (Int32 × (Nat → Int32))} (hrec : ∀ (qB q_twos q_outs q_trial : Nat) (sz : Nat) (x2 : Int32) (x3 : Int32) (bCount : Int32) (trial : Nat → Int32) (twos : Nat → Int32) (outs : Nat → Int32) (r9 : Int32) (trial9 : Nat → Int32), rec x2 x3 bCount trial twos outs = some (r9, trial9) → Met l yX6_countKept wsX6_countKept (rm_X6_countKept_trial dd) (Pz dC dI cyI cyJ cyZ [.ref qB, .ref q_trial, .int x2, .int x3] sz (w_X6_countKept_trial cyI cyJ cyZ qB q_twos q_outs q_trial bCount trial twos outs) X0) (Qzi dC dI cyI cyJ cyZ (va_A (w_X6_countKept_trial cyI cyJ cyZ qB q_twos q_outs q_trial bCount trial twos outs) sz) (w_X6_countKept_trial cyI cyJ cyZ qB q_twos q_outs q_trial bCount trial9 twos outs) r9) 0 0 (va_A (w_X6_countKept_trial cyI cyJ cyZ qB q_twos q_outs q_trial bCount trial twos outs) sz)) (C0 : Cx p s m args meth c cX6_countKept (some .int) 6 RX6 wsX6_countKept A dC dI cyI cyJ cyZ) {qB q_twos q_outs q_trial : Nat} (hXs : X0 A s) {N : Nat} {x2 : Int32} {x3 : Int32} {bCount : Int32} {trial : Nat → Int32} {twos : Nat → Int32} {outs : Nat → Int32} {r9 : Int32} {trial9 : Nat → Int32} (hf : f_X6_countKept_trial rec N x2 x3 bCount trial twos outs = some (r9, trial9)) (H : Heap) (locs : List Loc) (ls : Array Slot) (hP : va_P (dC, dI) vwCl (w_X6_countKept_trial cyI cyJ cyZ qB q_twos q_outs q_trial bCount trial twos outs) H) (hD : va_D A (w_X6_countKept_trial cyI cyJ cyZ qB q_twos q_outs q_trial bCount trial twos outs)) (hS : va_S A s.heap H locs) (hl : lv_has ls 6 [(0, .ref qB), (1, .ref q_trial), (2, .int x2), (3, .int x3)]) : W p l e (rm_X6_countKept_trial (dd + 1)) s m args below meth c H locs 0 0 (MQ below (Qzi dC dI cyI cyJ cyZ A (w_X6_countKept_trial cyI cyJ cyZ qB q_twos q_outs q_trial bCount trial9 twos outs) r9) args s 0 0 A) (F0 m 0 ls []) := by
  have C1 := C0
  obtain ⟨hx, hb, hr, hlocks, hml, hown, hts, hA, hK⟩ := C1
  unfold f_X6_countKept_trial at hf
  refine lv_iload_n hx hb dX6_countKept_0 rfl (lv_at hl 2 rfl) ?_
  refine lv_bipush (v := 6) hx hb dX6_countKept_1 (by decide) ?_
  refine lv_icmp_lt (tgt := 8) hx hb dX6_countKept_3 (by decide) (fun c_1 => ?_) (fun c_1 => ?_)
  · replace hf := it_t hf c_1
    refine lv_iload_n hx hb dX6_countKept_8 rfl (lv_at hl 3 rfl) ?_
    refine lv_iload_n hx hb dX6_countKept_9 rfl (lv_at hl 2 rfl) ?_
    refine lv_ishr hx hb dX6_countKept_10 ?_
    refine lv_iconst (v := 1) hx hb dX6_countKept_11 (by decide) ?_
    refine lv_iand hx hb dX6_countKept_12 ?_
    refine lv_if_ne (tgt := 28) hx hb dX6_countKept_13 (by decide) (fun c_2 => ?_) (fun c_2 => ?_)
    · replace hf := it_f hf c_2
      refine lv_iconst (v := 0) hx hb dX6_countKept_28 (by decide) ?_
      refine lv_istore (lv' := [(4, .int 0), (0, .ref qB), (1, .ref q_trial), (2, .int x2), (3, .int x3)]) hx hb dX6_countKept_29 hl (by decide) rfl (fun ls hl => ?_)
      refine lv_bipush (v := (-2)) hx hb dX6_countKept_31 (by decide) ?_
      refine lv_istore (lv' := [(5, .int (-2)), (4, .int 0), (0, .ref qB), (1, .ref q_trial), (2, .int x2), (3, .int x3)]) hx hb dX6_countKept_33 hl (by decide) rfl (fun ls hl => ?_)
      obtain ⟨x4_13, trial_14, hlp, hf⟩ := bd2_el hf
      refine l_X6_countKept_trial_b35 hrec C0 hXs (fun x4_13 trial_14 q9 H locs ls hP hD hS hl => ?_) N _ _ _ hlp H locs ls hP hD hS (lv_sub hl [2, 3, 4, 5, 1, 0] rfl)
      cases q9
      refine lv_iload hx hb dX6_countKept_75 (lv_at hl 0 rfl) ?_
      cases hf
      exact W.iret hx hb hr (fun t ht hW => ⟨⟨_, (), rfl, rfl, by rw [ht]; exact hP, va_K.moved hW.alike hK, hD⟩, hS.F ht⟩) hS.2.2 dX6_countKept_77
    · replace hf := it_t hf c_2
      refine lv_iconst (v := 5) hx hb dX6_countKept_16 (by decide) ?_
      refine lv_aload_n hx hb dX6_countKept_17 rfl (lv_at hl 0 rfl) ?_
      refine lv_aload_n hx hb dX6_countKept_18 rfl (lv_at hl 1 rfl) ?_
      refine lv_iload_n hx hb dX6_countKept_19 rfl (lv_at hl 2 rfl) ?_
      refine lv_iconst (v := 1) hx hb dX6_countKept_20 (by decide) ?_
      refine lv_iadd hx hb dX6_countKept_21 ?_
      refine lv_iload_n hx hb dX6_countKept_22 rfl (lv_at hl 3 rfl) ?_
      obtain ⟨r_15, trial_16, hc, hf⟩ := bd2_el hf
      refine cl_i (wc := (w_X6_countKept_trial cyI cyJ cyZ qB q_twos q_outs q_trial bCount trial twos outs)) (wr := []) (w1 := (w_X6_countKept_trial cyI cyJ cyZ qB q_twos q_outs q_trial bCount trial_16 twos outs)) (w2 := (w_X6_countKept_trial cyI cyJ cyZ qB q_twos q_outs q_trial bCount trial_16 twos outs)) C0 (rn_S (As := [.ref qB, .ref q_trial, .int (x2 + 1), .int x3]) (rest := [.int 5]) (wc := (w_X6_countKept_trial cyI cyJ cyZ qB q_twos q_outs q_trial bCount trial twos outs)) (X := X0) C0 (hrec qB q_twos q_outs q_trial H.size (x2 + 1) x3 bCount trial twos outs r_15 trial_16 hc) (va_cwS 4 hts gX6_countKept_X6_countKept rfl rfl rfl (by decide +kernel) ⟨(by show _ ≤ dd + 1 + 4; dsimp only; omega), (by show _ ≤ 25 * (dd + 1) + 91; dsimp only; omega)⟩) X0_car trivial hP hD hS [0, 1, 2, 3] rfl rfl rfl hl.1 rfl (Nat.le_of_ble_eq_true rfl) dX6_countKept_23 ⟨Nat.le_of_ble_eq_true rfl, Nat.le_of_ble_eq_true rfl⟩) hP hD hS [0, 1, 2, 3] [] [0, 1, 2, 3] rfl rfl rfl (by decide) rfl rfl (fun H locs hP hD hS => ?_)
      refine lv_imul hx hb dX6_countKept_26 ?_
      cases hf
      exact W.iret hx hb hr (fun t ht hW => ⟨⟨_, (), rfl, rfl, by rw [ht]; exact hP, va_K.moved hW.alike hK, hD⟩, hS.F ht⟩) hS.2.2 dX6_countKept_27
  · replace hf := it_f hf c_1
    refine lv_iconst (v := 1) hx hb dX6_countKept_6 (by decide) ?_
    cases hf
    exact W.iret hx hb hr (fun t ht hW => ⟨⟨_, (), rfl, rfl, by rw [ht]; exact hP, va_K.moved hW.alike hK, hD⟩, hS.F ht⟩) hS.2.2 dX6_countKept_7
def F_X6_countKept_trial (N : Nat) : Nat → Int32 → Int32 → Int32 → (Nat → Int32) → (Nat → Int32) → (Nat → Int32) → Option (Int32 × (Nat → Int32))
  | 0 => fun _ _ _ _ _ _ => none
  | d + 1 => f_X6_countKept_trial (F_X6_countKept_trial N d) N
set_option maxHeartbeats 4000000 in
set_option maxRecDepth 100000 in
theorem c_X6_countKept_trial (l : Launch) (dC : Nat → ClassId) (dI : Nat → Nat → Nat) (cyI cyJ cyZ : ClassId) (N : Nat) : ∀ (d : Nat) (qB q_twos q_outs q_trial : Nat) (sz : Nat) (x2 : Int32) (x3 : Int32) (bCount : Int32) (trial : Nat → Int32) (twos : Nat → Int32) (outs : Nat → Int32) (r9 : Int32) (trial9 : Nat → Int32), F_X6_countKept_trial N d x2 x3 bCount trial twos outs = some (r9, trial9) → Met l yX6_countKept wsX6_countKept (rm_X6_countKept_trial d) (Pz dC dI cyI cyJ cyZ [.ref qB, .ref q_trial, .int x2, .int x3] sz (w_X6_countKept_trial cyI cyJ cyZ qB q_twos q_outs q_trial bCount trial twos outs) X0) (Qzi dC dI cyI cyJ cyZ (va_A (w_X6_countKept_trial cyI cyJ cyZ qB q_twos q_outs q_trial bCount trial twos outs) sz) (w_X6_countKept_trial cyI cyJ cyZ qB q_twos q_outs q_trial bCount trial9 twos outs) r9) 0 0 (va_A (w_X6_countKept_trial cyI cyJ cyZ qB q_twos q_outs q_trial bCount trial twos outs) sz) := by
  intro d
  induction d with
  | zero => intro qB q_twos q_outs q_trial sz x2 x3 bCount trial twos outs r9 trial9 hf; cases hf
  | succ d ih =>
    intro qB q_twos q_outs q_trial sz x2 x3 bCount trial twos outs r9 trial9 hf
    refine Met_of (cc := cX6_countKept) (maxL := 6) (ret := (some .int)) (by decide) rfl (Nat.le_of_ble_eq_true rfl) ?_
    intro p e s m args below meth c ls C0 hsz hXs hP hD hS hl
    exact t_X6_countKept_trial (dd := d) ih C0 hXs hf s.heap [] ls hP hD hS hl
abbrev w_X6_keepers (cyI cyJ cyZ : ClassId) (qA qB qC qE qF q_told q_weights q_trial q_twos q_outs : Nat) (bCount : Int32) (trial : Nat → Int32) (twos : Nat → Int32) (outs : Nat → Int32) : va_W := [(qA, .inr (4, [.ref qB, .ref qC, .ref qE, .ref qF, .ref q_told, .ref q_weights, .ref q_trial])), (qB, .inr (3, [.ref q_twos, .ref q_outs, .int bCount])), (q_trial, .inl (cyI, 6, .inl trial)), (q_twos, .inl (cyI, 12, .inl twos)), (q_outs, .inl (cyI, 36, .inl outs))]
abbrev rm_X6_keepers : Room := { frames := 13, cells := 0, slots := 0, locals := 316 }
theorem hn_X6_keepers_X6 : ∀ w ∈ wsX60, w ∈ wsX6_keepers := fun _ h => List.mem_cons_of_mem _ (List.mem_append_left _ (List.mem_append_right _ h))
theorem hn_X6_keepers_X4 : ∀ w ∈ wsX40, w ∈ wsX6_keepers := fun _ h => List.mem_cons_of_mem _ (List.mem_append_right _ h)
def f_X6_keepers_b4 (N : Nat) (bCount : Int32) (trial : Nat → Int32) (twos : Nat → Int32) (outs : Nat → Int32) (x1 : Int32) (x2 : Int32) : Option ((Int32 × Int32) ⊕ (Int32)) :=
  (if bCount ≤ x2 then some (Sum.inr x1) else bd1 (f_X4_statesNamedAt N x2 twos outs) (fun r_2 => nm (x1 ||| r_2) (fun x1_3 => nm (x2 + 1) (fun x2_4 => some (Sum.inl (x1_3, x2_4))))))
set_option maxHeartbeats 4000000 in
set_option maxRecDepth 100000 in
theorem t_X6_keepers_b4 (C0 : Cx p s m args meth c cX6_keepers (some .int) 3 RX6 wsX6_keepers A dC dI cyI cyJ cyZ) {qA qB qC qE qF q_told q_weights q_trial q_twos q_outs : Nat} (hXs : X0 A s) {N : Nat} {bCount : Int32} {trial : Nat → Int32} {twos : Nat → Int32} {outs : Nat → Int32} {x1 : Int32} {x2 : Int32} {r9 : Int32} {trial9 : Nat → Int32} {r : (Int32 × Int32) ⊕ (Int32)} (hf : f_X6_keepers_b4 N bCount trial twos outs x1 x2 = some r) (Kh : ∀ (zx1 : Int32) (zx2 : Int32), r = Sum.inl (zx1, zx2) → ∀ (H : Heap) (locs : List Loc) (ls : Array Slot), va_P (dC, dI) vwCl (w_X6_keepers cyI cyJ cyZ qA qB qC qE qF q_told q_weights q_trial q_twos q_outs bCount trial twos outs) H → va_D A (w_X6_keepers cyI cyJ cyZ qA qB qC qE qF q_told q_weights q_trial q_twos q_outs bCount trial twos outs) → va_S A s.heap H locs → lv_has ls 3 [(0, .ref qA), (1, .int zx1), (2, .int zx2)] → W p l e rm_X6_keepers s m args below meth c H locs 0 0 (MQ below (Qzi dC dI cyI cyJ cyZ A (w_X6_keepers cyI cyJ cyZ qA qB qC qE qF q_told q_weights q_trial q_twos q_outs bCount trial9 twos outs) r9) args s 0 0 A) (F0 m 4 ls [])) (Ke : ∀ (zx1 : Int32), r = Sum.inr zx1 → ∀ (H : Heap) (locs : List Loc) (ls : Array Slot), va_P (dC, dI) vwCl (w_X6_keepers cyI cyJ cyZ qA qB qC qE qF q_told q_weights q_trial q_twos q_outs bCount trial twos outs) H → va_D A (w_X6_keepers cyI cyJ cyZ qA qB qC qE qF q_told q_weights q_trial q_twos q_outs bCount trial twos outs) → va_S A s.heap H locs → lv_has ls 3 [(0, .ref qA), (1, .int zx1)] → W p l e rm_X6_keepers s m args below meth c H locs 0 0 (MQ below (Qzi dC dI cyI cyJ cyZ A (w_X6_keepers cyI cyJ cyZ qA qB qC qE qF q_told q_weights q_trial q_twos q_outs bCount trial9 twos outs) r9) args s 0 0 A) (F0 m 32 ls [])) (H : Heap) (locs : List Loc) (ls : Array Slot) (hP : va_P (dC, dI) vwCl (w_X6_keepers cyI cyJ cyZ qA qB qC qE qF q_told q_weights q_trial q_twos q_outs bCount trial twos outs) H) (hD : va_D A (w_X6_keepers cyI cyJ cyZ qA qB qC qE qF q_told q_weights q_trial q_twos q_outs bCount trial twos outs)) (hS : va_S A s.heap H locs) (hl : lv_has ls 3 [(0, .ref qA), (1, .int x1), (2, .int x2)]) : W p l e rm_X6_keepers s m args below meth c H locs 0 0 (MQ below (Qzi dC dI cyI cyJ cyZ A (w_X6_keepers cyI cyJ cyZ qA qB qC qE qF q_told q_weights q_trial q_twos q_outs bCount trial9 twos outs) r9) args s 0 0 A) (F0 m 4 ls []) := by
  have C1 := C0
  obtain ⟨hx, hb, hr, hlocks, hml, hown, hts, hA, hK⟩ := C1
  unfold f_X6_keepers_b4 at hf
  refine lv_iload_n hx hb dX6_keepers_4 rfl (lv_at hl 2 rfl) ?_
  refine lv_aload_n hx hb dX6_keepers_5 rfl (lv_at hl 0 rfl) ?_
  refine va_get (D := (dC, dI)) (ci := 4) (v := .ref qB) (C := RX6) (T := TX6) (N := 7) hx hb hts hn_X6_keepers_X6 hown hK hP 0 rfl rfl 0 (by decide) (hts (.fieldLink RX6 12 "MetAgents" "book" "LMetAgents$RuleBook;") (List.mem_of_getElem? (i := 1) rfl)) (fun _ h9 => h9) rfl dX6_keepers_6 ?_
  refine va_get (D := (dC, dI)) (ci := 3) (v := .int bCount) (C := RX4) (T := TX4) (N := 3) hx hb hts hn_X6_keepers_X4 hown hK hP 1 rfl rfl 2 (by decide) (hts (.fieldLink RX6 63 "MetAgents$RuleBook" "count" "I") (List.mem_of_getElem? (i := 2) rfl)) (fun _ h9 => h9) rfl dX6_keepers_9 ?_
  refine lv_icmp_ge (tgt := 32) hx hb dX6_keepers_12 (by decide) (fun c_1 => ?_) (fun c_1 => ?_)
  · replace hf := it_t hf c_1
    exact Ke _ (Option.some.inj hf).symm H locs ls hP hD hS (lv_sub hl [0, 1] rfl)
  · replace hf := it_f hf c_1
    refine lv_iload_n hx hb dX6_keepers_15 rfl (lv_at hl 1 rfl) ?_
    refine lv_aload_n hx hb dX6_keepers_16 rfl (lv_at hl 0 rfl) ?_
    refine va_get (D := (dC, dI)) (ci := 4) (v := .ref qB) (C := RX6) (T := TX6) (N := 7) hx hb hts hn_X6_keepers_X6 hown hK hP 0 rfl rfl 0 (by decide) (hts (.fieldLink RX6 12 "MetAgents" "book" "LMetAgents$RuleBook;") (List.mem_of_getElem? (i := 1) rfl)) (fun _ h9 => h9) rfl dX6_keepers_17 ?_
    refine lv_iload_n hx hb dX6_keepers_20 rfl (lv_at hl 2 rfl) ?_
    obtain ⟨r_2, hc, hf⟩ := bd1_el hf
    refine cl_i (wc := (w_X4_statesNamedAt cyI cyJ cyZ qB q_twos q_outs bCount twos outs)) (wr := [(qA, .inr (4, [.ref qB, .ref qC, .ref qE, .ref qF, .ref q_told, .ref q_weights, .ref q_trial])), (q_trial, .inl (cyI, 6, .inl trial))]) (w1 := (w_X4_statesNamedAt cyI cyJ cyZ qB q_twos q_outs bCount twos outs)) (w2 := (w_X6_keepers cyI cyJ cyZ qA qB qC qE qF q_told q_weights q_trial q_twos q_outs bCount trial twos outs)) C0 (rn_V (As := [.int x2]) (rest := [.int x1]) (wc := (w_X4_statesNamedAt cyI cyJ cyZ qB q_twos q_outs bCount twos outs)) (X := X0) C0 (c_X4_statesNamedAt l dC dI cyI cyJ cyZ qB q_twos q_outs H.size N x2 twos outs bCount r_2 hc) (cwV 1 hts gX6_keepers_X4_statesNamedAt rfl rfl rfl (by decide +kernel) ⟨Nat.le_of_ble_eq_true rfl, Nat.le_of_ble_eq_true rfl⟩) X0_car trivial hP hD hS [1, 3, 4] rfl rfl 1 3 rfl rfl rfl hl.1 rfl (Nat.le_of_ble_eq_true rfl) dX6_keepers_21 ⟨Nat.le_of_ble_eq_true rfl, Nat.le_of_ble_eq_true rfl⟩) hP hD hS [1, 3, 4] [0, 2] [0, 2, 1, 3, 4] rfl rfl rfl (by decide) rfl rfl (fun H locs hP hD hS => ?_)
    refine lv_ior hx hb dX6_keepers_24 ?_
    obtain ⟨x1_3, e_3, hf⟩ := nm_el hf
    refine top_i e_3 ?_
    refine lv_istore_n (lv' := [(1, .int x1_3), (0, .ref qA), (2, .int x2)]) hx hb dX6_keepers_25 rfl hl (by decide) rfl (fun ls hl => ?_)
    obtain ⟨x2_4, e_4, hf⟩ := nm_el hf
    refine lv_iinc (v := x2_4) (lv' := [(2, .int x2_4), (1, .int x1_3), (0, .ref qA)]) hx hb dX6_keepers_26 hl (k := 2) rfl (by rw [e_4]; rfl) (by decide) rfl (fun ls hl => ?_)
    refine lv_goto (tgt := 4) hx hb dX6_keepers_29 (by decide) ?_
    exact Kh _ _ (Option.some.inj hf).symm H locs ls hP hD hS (lv_sub hl [2, 1, 0] rfl)
set_option maxHeartbeats 4000000 in
set_option maxRecDepth 100000 in
theorem l_X6_keepers_b4 (C0 : Cx p s m args meth c cX6_keepers (some .int) 3 RX6 wsX6_keepers A dC dI cyI cyJ cyZ) {qA qB qC qE qF q_told q_weights q_trial q_twos q_outs : Nat} (hXs : X0 A s) {N : Nat} {bCount : Int32} {trial : Nat → Int32} {twos : Nat → Int32} {outs : Nat → Int32} {r9 : Int32} {trial9 : Nat → Int32} {z : Int32} (Ke : ∀ (zx1 : Int32), z = zx1 → ∀ (H : Heap) (locs : List Loc) (ls : Array Slot), va_P (dC, dI) vwCl (w_X6_keepers cyI cyJ cyZ qA qB qC qE qF q_told q_weights q_trial q_twos q_outs bCount trial twos outs) H → va_D A (w_X6_keepers cyI cyJ cyZ qA qB qC qE qF q_told q_weights q_trial q_twos q_outs bCount trial twos outs) → va_S A s.heap H locs → lv_has ls 3 [(0, .ref qA), (1, .int zx1)] → W p l e rm_X6_keepers s m args below meth c H locs 0 0 (MQ below (Qzi dC dI cyI cyJ cyZ A (w_X6_keepers cyI cyJ cyZ qA qB qC qE qF q_told q_weights q_trial q_twos q_outs bCount trial9 twos outs) r9) args s 0 0 A) (F0 m 32 ls [])) : ∀ (n9 : Nat) (x1 : Int32) (x2 : Int32), loopN (fun (w9 : Int32 × Int32) => f_X6_keepers_b4 N bCount trial twos outs w9.1 w9.2) n9 (x1, x2) = some z → ∀ (H : Heap) (locs : List Loc) (ls : Array Slot), va_P (dC, dI) vwCl (w_X6_keepers cyI cyJ cyZ qA qB qC qE qF q_told q_weights q_trial q_twos q_outs bCount trial twos outs) H → va_D A (w_X6_keepers cyI cyJ cyZ qA qB qC qE qF q_told q_weights q_trial q_twos q_outs bCount trial twos outs) → va_S A s.heap H locs → lv_has ls 3 [(0, .ref qA), (1, .int x1), (2, .int x2)] → W p l e rm_X6_keepers s m args below meth c H locs 0 0 (MQ below (Qzi dC dI cyI cyJ cyZ A (w_X6_keepers cyI cyJ cyZ qA qB qC qE qF q_told q_weights q_trial q_twos q_outs bCount trial9 twos outs) r9) args s 0 0 A) (F0 m 4 ls []) := by
  intro n9
  induction n9 with
  | zero => intro _ _ h; cases h
  | succ n9 ih =>
    intro x1 x2 h H locs ls hP hD hS hl
    rcases loopN_el h with ⟨y9, h1, h2⟩ | h1
    · exact t_X6_keepers_b4 C0 hXs  h1 (fun zx1 zx2 q9 H locs ls hP hD hS hl => ih zx1 zx2 (by cases q9; exact h2) H locs ls hP hD hS hl) (fun _ q9 => by cases q9) H locs ls hP hD hS hl
    · exact t_X6_keepers_b4 C0 hXs  h1 (fun _ _ q9 => by cases q9) (fun ex1 q9 => Ke ex1 (by cases q9; rfl)) H locs ls hP hD hS hl
def f_X6_keepers (N : Nat) (bCount : Int32) (trial : Nat → Int32) (twos : Nat → Int32) (outs : Nat → Int32) : Option (Int32 × (Nat → Int32)) :=
  bd1 (loopN (fun (w9 : Int32 × Int32) => f_X6_keepers_b4 N bCount trial twos outs w9.1 w9.2) N (0, 0)) (fun x1_5 => bd2 (F_X6_countKept_trial N 8 0 x1_5 bCount trial twos outs) (fun r_6 trial_7 => some (r_6, trial_7)))
set_option maxHeartbeats 4000000 in
set_option maxRecDepth 100000 in
theorem t_X6_keepers (C0 : Cx p s m args meth c cX6_keepers (some .int) 3 RX6 wsX6_keepers A dC dI cyI cyJ cyZ) {qA qB qC qE qF q_told q_weights q_trial q_twos q_outs : Nat} (hXs : X0 A s) {N : Nat} {bCount : Int32} {trial : Nat → Int32} {twos : Nat → Int32} {outs : Nat → Int32} {r9 : Int32} {trial9 : Nat → Int32} (hf : f_X6_keepers N bCount trial twos outs = some (r9, trial9)) (H : Heap) (locs : List Loc) (ls : Array Slot) (hP : va_P (dC, dI) vwCl (w_X6_keepers cyI cyJ cyZ qA qB qC qE qF q_told q_weights q_trial q_twos q_outs bCount trial twos outs) H) (hD : va_D A (w_X6_keepers cyI cyJ cyZ qA qB qC qE qF q_told q_weights q_trial q_twos q_outs bCount trial twos outs)) (hS : va_S A s.heap H locs) (hl : lv_has ls 3 [(0, .ref qA)]) : W p l e rm_X6_keepers s m args below meth c H locs 0 0 (MQ below (Qzi dC dI cyI cyJ cyZ A (w_X6_keepers cyI cyJ cyZ qA qB qC qE qF q_told q_weights q_trial q_twos q_outs bCount trial9 twos outs) r9) args s 0 0 A) (F0 m 0 ls []) := by
  have C1 := C0
  obtain ⟨hx, hb, hr, hlocks, hml, hown, hts, hA, hK⟩ := C1
  unfold f_X6_keepers at hf
  refine lv_iconst (v := 0) hx hb dX6_keepers_0 (by decide) ?_
  refine lv_istore_n (lv' := [(1, .int 0), (0, .ref qA)]) hx hb dX6_keepers_1 rfl hl (by decide) rfl (fun ls hl => ?_)
  refine lv_iconst (v := 0) hx hb dX6_keepers_2 (by decide) ?_
  refine lv_istore_n (lv' := [(2, .int 0), (1, .int 0), (0, .ref qA)]) hx hb dX6_keepers_3 rfl hl (by decide) rfl (fun ls hl => ?_)
  obtain ⟨x1_5, hlp, hf⟩ := bd1_el hf
  refine l_X6_keepers_b4 C0 hXs (fun x1_5 q9 H locs ls hP hD hS hl => ?_) N _ _ hlp H locs ls hP hD hS (lv_sub hl [2, 1, 0] rfl)
  cases q9
  refine lv_aload_n hx hb dX6_keepers_32 rfl (lv_at hl 0 rfl) ?_
  refine va_get (D := (dC, dI)) (ci := 4) (v := .ref qB) (C := RX6) (T := TX6) (N := 7) hx hb hts hn_X6_keepers_X6 hown hK hP 0 rfl rfl 0 (by decide) (hts (.fieldLink RX6 12 "MetAgents" "book" "LMetAgents$RuleBook;") (List.mem_of_getElem? (i := 1) rfl)) (fun _ h9 => h9) rfl dX6_keepers_33 ?_
  refine lv_aload_n hx hb dX6_keepers_36 rfl (lv_at hl 0 rfl) ?_
  refine va_get (D := (dC, dI)) (ci := 4) (v := .ref q_trial) (C := RX6) (T := TX6) (N := 7) hx hb hts hn_X6_keepers_X6 hown hK hP 0 rfl rfl 6 (by decide) (hts (.fieldLink RX6 46 "MetAgents" "trial" "[I") (List.mem_of_getElem? (i := 3) rfl)) (fun _ h9 => h9) rfl dX6_keepers_37 ?_
  refine lv_iconst (v := 0) hx hb dX6_keepers_40 (by decide) ?_
  refine lv_iload_n hx hb dX6_keepers_41 rfl (lv_at hl 1 rfl) ?_
  obtain ⟨r_6, trial_7, hc, hf⟩ := bd2_el hf
  refine cl_i (wc := (w_X6_countKept_trial cyI cyJ cyZ qB q_twos q_outs q_trial bCount trial twos outs)) (wr := [(qA, .inr (4, [.ref qB, .ref qC, .ref qE, .ref qF, .ref q_told, .ref q_weights, .ref q_trial]))]) (w1 := (w_X6_countKept_trial cyI cyJ cyZ qB q_twos q_outs q_trial bCount trial_7 twos outs)) (w2 := (w_X6_keepers cyI cyJ cyZ qA qB qC qE qF q_told q_weights q_trial q_twos q_outs bCount trial_7 twos outs)) C0 (rn_S (As := [.ref qB, .ref q_trial, .int 0, .int x1_5]) (rest := []) (wc := (w_X6_countKept_trial cyI cyJ cyZ qB q_twos q_outs q_trial bCount trial twos outs)) (X := X0) C0 (c_X6_countKept_trial l dC dI cyI cyJ cyZ N 8 qB q_twos q_outs q_trial H.size 0 x1_5 bCount trial twos outs r_6 trial_7 hc) (va_cwS 4 hts gX6_keepers_X6_countKept rfl rfl rfl (by decide +kernel) ⟨Nat.le_of_ble_eq_true rfl, Nat.le_of_ble_eq_true rfl⟩) X0_car trivial hP hD hS [1, 2, 3, 4] rfl rfl rfl hl.1 rfl (Nat.le_of_ble_eq_true rfl) dX6_keepers_42 ⟨Nat.le_of_ble_eq_true rfl, Nat.le_of_ble_eq_true rfl⟩) hP hD hS [1, 2, 3, 4] [0] [0, 1, 2, 3, 4] rfl rfl rfl (by decide) rfl rfl (fun H locs hP hD hS => ?_)
  cases hf
  exact W.iret hx hb hr (fun t ht hW => ⟨⟨_, (), rfl, rfl, by rw [ht]; exact hP, va_K.moved hW.alike hK, hD⟩, hS.F ht⟩) hS.2.2 dX6_keepers_45
set_option maxHeartbeats 4000000 in
set_option maxRecDepth 100000 in
theorem c_X6_keepers (l : Launch) (dC : Nat → ClassId) (dI : Nat → Nat → Nat) (cyI cyJ cyZ : ClassId) (qA qB qC qE qF q_told q_weights q_trial q_twos q_outs : Nat) (sz N : Nat) (bCount : Int32) (trial : Nat → Int32) (twos : Nat → Int32) (outs : Nat → Int32) (r9 : Int32) (trial9 : Nat → Int32) (hf : f_X6_keepers N bCount trial twos outs = some (r9, trial9)) : Met l yX6_keepers wsX6_keepers rm_X6_keepers (Pz dC dI cyI cyJ cyZ [.ref qA] sz (w_X6_keepers cyI cyJ cyZ qA qB qC qE qF q_told q_weights q_trial q_twos q_outs bCount trial twos outs) X0) (Qzi dC dI cyI cyJ cyZ (va_A (w_X6_keepers cyI cyJ cyZ qA qB qC qE qF q_told q_weights q_trial q_twos q_outs bCount trial twos outs) sz) (w_X6_keepers cyI cyJ cyZ qA qB qC qE qF q_told q_weights q_trial q_twos q_outs bCount trial9 twos outs) r9) 0 0 (va_A (w_X6_keepers cyI cyJ cyZ qA qB qC qE qF q_told q_weights q_trial q_twos q_outs bCount trial twos outs) sz) := by
  refine Met_of (cc := cX6_keepers) (maxL := 3) (ret := (some .int)) (by decide) rfl (Nat.le_of_ble_eq_true rfl) ?_
  intro p e s m args below meth c ls C0 hsz hXs hP hD hS hl
  exact t_X6_keepers C0 hXs hf s.heap [] ls hP hD hS hl
end
