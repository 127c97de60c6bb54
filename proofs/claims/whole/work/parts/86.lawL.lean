section
variable {p : Program} {l : Launch} {e : Env} {s : State} {m : MethodId} {below : List Frame} {meth : Method} {c : Code} {dC : Nat → ClassId} {dI : Nat → Nat → Nat} {cyI cyJ cyZ : ClassId} {b L : Nat} {xs : Nat → Int32} {tC tL tM tH : Nat}
theorem law_j {L j : Nat} (hL : L ≤ 3584) (hj : j ≤ L) (h : ¬ (Int32.ofNat L - 7 < nI j)) : j + 7 ≤ L := by
  rcases Nat.lt_or_ge L (j + 7) with q | q
  · exfalso
    apply h
    have h7 : (7 : Int32) = nI 7 := rfl
    have e1 : (nI L - nI 7).toInt = (L : Int) - 7 := pk_sub_toInt (by omega) (by omega)
    rw [Int32.lt_iff_toInt_lt, nI_toInt (by omega)]
    show (nI L - 7).toInt < _
    rw [h7, e1]
    omega
  · exact q
theorem law_in {L j : Nat} (hL : L ≤ 3584) (hj : j + 7 ≤ L) : ∀ k : Int32, k ≤ 6 ∧ 0 ≤ k → vp_in (nI j + k) L := by
  intro k hk
  have h0 : ¬ k < 0 := fun q => absurd hk.2 (Int32.not_le.mpr q)
  obtain ⟨i, hi, rfl⟩ := nI_of2 (M := 6) (n := 6) (by decide) h0 hk.1
  rw [nI_add]
  exact vp_in_nI (by omega) (by omega)
set_option maxHeartbeats 4000000 in
set_option maxRecDepth 100000 in
theorem law_loop (C0 : Cx p s m #[Value.ref b] meth c cL_law (some .boolean) 4 RL wsL_law (lwA s) dC dI cyI cyJ cyZ) (hX : va_X b L xs s s.heap) (hbl : b < s.heap.size) (hL : L ≤ 3584) (hXC : XC tC (lwA s) s) (hXP : XP tL tM tH (lwA s) s) {N : Nat} (hN : 20000 ≤ N) {qA qB qC qE qF qM q_told q_weights q_trial q_twos q_outs q_states q_lastMet q_por q_confs q_near q_leads q_agrees q_answers q_hopes q_opens q_most q_ready q_rows q_longer q_pOf q_qOf q_xOf q_yOf q_toldBy q_weightOf q_stateOf q_metAt q_manyIn q_codeOf q_farOf q_leadsTo q_answerOf q_comesTo q_mostOn q_rowsTo q_rowsThen : Nat} : ∀ (n j : Nat) (x3 : Int32), x3 = nI j → j ≤ L → L + 1 ≤ j + n → ∀ (bCount : Int32) (cSize : Int32) (cMeet : Int32) (cChg : Int32) (cSeed : Int32) (rRules : Int32) (rCount : Int32) (mRules : Int32) (mAgents : Int32) (mMeet : Int32) (mChg : Int32) (mSeed : Int32) (mListed : Int32) (told : Nat → Int32) (weights : Nat → Int32) (trial : Nat → Int32) (twos : Nat → Int32) (outs : Nat → Int32) (states : Nat → Int32) (lastMet : Nat → Int32) (por : Nat → Int32) (confs : Nat → Int32) (near : Nat → Int32) (leads : Nat → Int32) (agrees : Nat → Int32) (answers : Nat → Int32) (hopes : Nat → Int32) (opens : Nat → Int32) (most : Nat → Int32) (ready : Nat → Int32) (rows : Nat → Int64) (longer : Nat → Int64) (pOf : Nat → Int32) (qOf : Nat → Int32) (xOf : Nat → Int32) (yOf : Nat → Int32) (toldBy : Nat → Int32) (weightOf : Nat → Int32) (stateOf : Nat → Int32) (metAt : Nat → Int32) (manyIn : Nat → Int32) (codeOf : Nat → Int32) (farOf : Nat → Int32) (leadsTo : Nat → Int32) (answerOf : Nat → Int32) (comesTo : Nat → Int32) (mostOn : Nat → Int32) (rowsTo : Nat → Int64) (rowsThen : Nat → Int64), Rel bCount twos outs mRules pOf qOf xOf yOf cSize cMeet cChg cSeed states lastMet mAgents mMeet mChg mSeed stateOf metAt told toldBy weights weightOf → ∀ (H : Heap) (locs : List Loc) (ls : Array Slot), va_P (dC, dI) vwCl (w_L cyI cyJ cyZ qA qB qC qE qF qM q_told q_weights q_trial q_twos q_outs q_states q_lastMet q_por q_confs q_near q_leads q_agrees q_answers q_hopes q_opens q_most q_ready q_rows q_longer q_pOf q_qOf q_xOf q_yOf q_toldBy q_weightOf q_stateOf q_metAt q_manyIn q_codeOf q_farOf q_leadsTo q_answerOf q_comesTo q_mostOn q_rowsTo q_rowsThen bCount cSize cMeet cChg cSeed rRules rCount mRules mAgents mMeet mChg mSeed mListed told weights trial twos outs states lastMet por confs near leads agrees answers hopes opens most ready rows longer pOf qOf xOf yOf toldBy weightOf stateOf metAt manyIn codeOf farOf leadsTo answerOf comesTo mostOn rowsTo rowsThen) H → va_D (lwA s) (w_L cyI cyJ cyZ qA qB qC qE qF qM q_told q_weights q_trial q_twos q_outs q_states q_lastMet q_por q_confs q_near q_leads q_agrees q_answers q_hopes q_opens q_most q_ready q_rows q_longer q_pOf q_qOf q_xOf q_yOf q_toldBy q_weightOf q_stateOf q_metAt q_manyIn q_codeOf q_farOf q_leadsTo q_answerOf q_comesTo q_mostOn q_rowsTo q_rowsThen bCount cSize cMeet cChg cSeed rRules rCount mRules mAgents mMeet mChg mSeed mListed told weights trial twos outs states lastMet por confs near leads agrees answers hopes opens most ready rows longer pOf qOf xOf yOf toldBy weightOf stateOf metAt manyIn codeOf farOf leadsTo answerOf comesTo mostOn rowsTo rowsThen) → va_S (lwA s) s.heap H locs → lv_has ls 4 [(0, .ref b), (1, .ref qA), (2, .ref qM), (3, .int x3)] → W p l e room_1 s m #[Value.ref b] below meth c H locs 42 22443 (lw_Z below #[Value.ref b] s) (F0 m 18 ls []) := by
  have C1 := C0
  obtain ⟨hx, hb, hr, hlocks, hml, hown, hts, hA, hK⟩ := C1
  have hbA : ¬ lwA s b := Nat.not_le.mpr hbl
  intro n
  induction n with
  | zero => intro j x3 e3 h1 h2; exact absurd h2 (by omega)
  | succ n ih =>
    intro j x3 e3 hj hn bCount cSize cMeet cChg cSeed rRules rCount mRules mAgents mMeet mChg mSeed mListed told weights trial twos outs states lastMet por confs near leads agrees answers hopes opens most ready rows longer pOf qOf xOf yOf toldBy weightOf stateOf metAt manyIn codeOf farOf leadsTo answerOf comesTo mostOn rowsTo rowsThen hR H locs ls hP hD hS hl
    refine lv_iload_n hx hb dL_law_18 rfl (lv_at hl 3 rfl) ?_
    refine lv_aload_n hx hb dL_law_19 rfl (lv_at hl 0 rfl) ?_
    refine va_slen hx hb hX hbl hbA hS dL_law_20 ?_
    refine lv_bipush (v := 7) hx hb dL_law_21 (by decide) ?_
    refine lv_isub hx hb dL_law_23 ?_
    refine lv_icmp_gt (tgt := 842) hx hb dL_law_24 (by decide) (fun _ => ?_) (fun cj => ?_)
    · refine lv_iconst (v := 1) hx hb dL_law_842 (by decide) ?_
      refine va_forget (fun q hq => hS.2.2 q hq) ?_
      refine W.widen (k := 600000) (n := 7302250) (Nat.le_of_ble_eq_true rfl) (Nat.le_of_ble_eq_true rfl) ?_
      exact lw_ret hx hb hr hlocks dL_law_843
    have hj7 : j + 7 ≤ L := law_j hL hj (by rw [e3] at cj; exact cj)
    have hin : ∀ k : Int32, k ≤ 6 ∧ 0 ≤ k → vp_in (x3 + k) L := by rw [e3]; exact law_in hL hj7
    have hin0 : vp_in x3 L := by rw [e3]; exact vp_in_nI (by omega) (by omega)
    have Kt : ∀ (bCount : Int32) (cSize : Int32) (cMeet : Int32) (cChg : Int32) (cSeed : Int32) (rRules : Int32) (rCount : Int32) (mRules : Int32) (mAgents : Int32) (mMeet : Int32) (mChg : Int32) (mSeed : Int32) (mListed : Int32) (told : Nat → Int32) (weights : Nat → Int32) (trial : Nat → Int32) (twos : Nat → Int32) (outs : Nat → Int32) (states : Nat → Int32) (lastMet : Nat → Int32) (por : Nat → Int32) (confs : Nat → Int32) (near : Nat → Int32) (leads : Nat → Int32) (agrees : Nat → Int32) (answers : Nat → Int32) (hopes : Nat → Int32) (opens : Nat → Int32) (most : Nat → Int32) (ready : Nat → Int32) (rows : Nat → Int64) (longer : Nat → Int64) (pOf : Nat → Int32) (qOf : Nat → Int32) (xOf : Nat → Int32) (yOf : Nat → Int32) (toldBy : Nat → Int32) (weightOf : Nat → Int32) (stateOf : Nat → Int32) (metAt : Nat → Int32) (manyIn : Nat → Int32) (codeOf : Nat → Int32) (farOf : Nat → Int32) (leadsTo : Nat → Int32) (answerOf : Nat → Int32) (comesTo : Nat → Int32) (mostOn : Nat → Int32) (rowsTo : Nat → Int64) (rowsThen : Nat → Int64), Rel bCount twos outs mRules pOf qOf xOf yOf cSize cMeet cChg cSeed states lastMet mAgents mMeet mChg mSeed stateOf metAt told toldBy weights weightOf → ∀ (H : Heap) (locs : List Loc) (ls : Array Slot), va_P (dC, dI) vwCl (w_L cyI cyJ cyZ qA qB qC qE qF qM q_told q_weights q_trial q_twos q_outs q_states q_lastMet q_por q_confs q_near q_leads q_agrees q_answers q_hopes q_opens q_most q_ready q_rows q_longer q_pOf q_qOf q_xOf q_yOf q_toldBy q_weightOf q_stateOf q_metAt q_manyIn q_codeOf q_farOf q_leadsTo q_answerOf q_comesTo q_mostOn q_rowsTo q_rowsThen bCount cSize cMeet cChg cSeed rRules rCount mRules mAgents mMeet mChg mSeed mListed told weights trial twos outs states lastMet por confs near leads agrees answers hopes opens most ready rows longer pOf qOf xOf yOf toldBy weightOf stateOf metAt manyIn codeOf farOf leadsTo answerOf comesTo mostOn rowsTo rowsThen) H → va_D (lwA s) (w_L cyI cyJ cyZ qA qB qC qE qF qM q_told q_weights q_trial q_twos q_outs q_states q_lastMet q_por q_confs q_near q_leads q_agrees q_answers q_hopes q_opens q_most q_ready q_rows q_longer q_pOf q_qOf q_xOf q_yOf q_toldBy q_weightOf q_stateOf q_metAt q_manyIn q_codeOf q_farOf q_leadsTo q_answerOf q_comesTo q_mostOn q_rowsTo q_rowsThen bCount cSize cMeet cChg cSeed rRules rCount mRules mAgents mMeet mChg mSeed mListed told weights trial twos outs states lastMet por confs near leads agrees answers hopes opens most ready rows longer pOf qOf xOf yOf toldBy weightOf stateOf metAt manyIn codeOf farOf leadsTo answerOf comesTo mostOn rowsTo rowsThen) → va_S (lwA s) s.heap H locs → lv_has ls 4 [(0, .ref b), (1, .ref qA), (2, .ref qM), (3, .int x3)] → W p l e room_1 s m #[Value.ref b] below meth c H locs 42 22443 (lw_Z below #[Value.ref b] s) (F0 m 836 ls []) := by
      intro bCount cSize cMeet cChg cSeed rRules rCount mRules mAgents mMeet mChg mSeed mListed told weights trial twos outs states lastMet por confs near leads agrees answers hopes opens most ready rows longer pOf qOf xOf yOf toldBy weightOf stateOf metAt manyIn codeOf farOf leadsTo answerOf comesTo mostOn rowsTo rowsThen hR H locs ls hP hD hS hl
      obtain ⟨y3, ey⟩ : ∃ y : Int32, y = x3 + 7 := ⟨_, rfl⟩
      refine lv_iinc (v := y3) (lv' := [(3, .int y3), (0, .ref b), (1, .ref qA), (2, .ref qM)]) hx hb dL_law_836 hl (k := 3) rfl (by rw [ey]; rfl) (by decide) rfl (fun ls hl => ?_)
      refine lv_goto (tgt := 18) hx hb dL_law_839 (by decide) ?_
      exact ih (j + 7) y3 (by rw [ey, e3]; exact nI_add j 7) (by omega) (by omega) bCount cSize cMeet cChg cSeed rRules rCount mRules mAgents mMeet mChg mSeed mListed told weights trial twos outs states lastMet por confs near leads agrees answers hopes opens most ready rows longer pOf qOf xOf yOf toldBy weightOf stateOf metAt manyIn codeOf farOf leadsTo answerOf comesTo mostOn rowsTo rowsThen hR H locs ls hP hD hS (lv_sub hl [1, 2, 3, 0] rfl)
    refine lv_aload_n hx hb dL_law_27 rfl (lv_at hl 0 rfl) ?_
    refine lv_iload_n hx hb dL_law_28 rfl (lv_at hl 3 rfl) ?_
    refine va_sld hx hb hX hbl hbA hS hin0 dL_law_29 ?_
    refine lv_bipush (v := 31) hx hb dL_law_30 (by decide) ?_
    refine lv_iand hx hb dL_law_32 ?_
    refine lv_topi (fun v9 _ => ?_)
    by_cases c_0 : v9 = 0
    · refine lv_tableIn (tgt := 148) hx hb dL_law_33 (by rw [c_0]; decide) (by rw [c_0]; decide) (by rw [c_0]; rfl) (by decide) ?_
      exact law_c0 C0 hX hbl hXC hXP hN hin hR Kt H locs ls hP hD hS hl
    by_cases c_1 : v9 = 1
    · refine lv_tableIn (tgt := 201) hx hb dL_law_33 (by rw [c_1]; decide) (by rw [c_1]; decide) (by rw [c_1]; rfl) (by decide) ?_
      exact law_c1 C0 hX hbl hXC hXP hN hin hR Kt H locs ls hP hD hS hl
    by_cases c_2 : v9 = 2
    · refine lv_tableIn (tgt := 234) hx hb dL_law_33 (by rw [c_2]; decide) (by rw [c_2]; decide) (by rw [c_2]; rfl) (by decide) ?_
      exact law_c2 C0 hX hbl hXC hXP hN hin hR Kt H locs ls hP hD hS hl
    by_cases c_3 : v9 = 3
    · refine lv_tableIn (tgt := 257) hx hb dL_law_33 (by rw [c_3]; decide) (by rw [c_3]; decide) (by rw [c_3]; rfl) (by decide) ?_
      exact law_c3 C0 hX hbl hXC hXP hN hin hR Kt H locs ls hP hD hS hl
    by_cases c_4 : v9 = 4
    · refine lv_tableIn (tgt := 290) hx hb dL_law_33 (by rw [c_4]; decide) (by rw [c_4]; decide) (by rw [c_4]; rfl) (by decide) ?_
      exact law_c4 C0 hX hbl hXC hXP hN hin hR Kt H locs ls hP hD hS hl
    by_cases c_5 : v9 = 5
    · refine lv_tableIn (tgt := 323) hx hb dL_law_33 (by rw [c_5]; decide) (by rw [c_5]; decide) (by rw [c_5]; rfl) (by decide) ?_
      exact law_c5 C0 hX hbl hXC hXP hN hin hR Kt H locs ls hP hD hS hl
    by_cases c_6 : v9 = 6
    · refine lv_tableIn (tgt := 398) hx hb dL_law_33 (by rw [c_6]; decide) (by rw [c_6]; decide) (by rw [c_6]; rfl) (by decide) ?_
      exact law_c6 C0 hX hbl hXC hXP hN hin hR Kt H locs ls hP hD hS hl
    by_cases c_7 : v9 = 7
    · refine lv_tableIn (tgt := 421) hx hb dL_law_33 (by rw [c_7]; decide) (by rw [c_7]; decide) (by rw [c_7]; rfl) (by decide) ?_
      exact law_c7 C0 hX hbl hXC hXP hN hin hR Kt H locs ls hP hD hS hl
    by_cases c_8 : v9 = 8
    · refine lv_tableIn (tgt := 454) hx hb dL_law_33 (by rw [c_8]; decide) (by rw [c_8]; decide) (by rw [c_8]; rfl) (by decide) ?_
      exact law_c8 C0 hX hbl hXC hXP hN hin hR Kt H locs ls hP hD hS hl
    by_cases c_9 : v9 = 9
    · refine lv_tableIn (tgt := 477) hx hb dL_law_33 (by rw [c_9]; decide) (by rw [c_9]; decide) (by rw [c_9]; rfl) (by decide) ?_
      exact law_c9 C0 hX hbl hXC hXP hN hin hR Kt H locs ls hP hD hS hl
    by_cases c_10 : v9 = 10
    · refine lv_tableIn (tgt := 500) hx hb dL_law_33 (by rw [c_10]; decide) (by rw [c_10]; decide) (by rw [c_10]; rfl) (by decide) ?_
      exact law_c10 C0 hX hbl hXC hXP hN hin hR Kt H locs ls hP hD hS hl
    by_cases c_11 : v9 = 11
    · refine lv_tableIn (tgt := 533) hx hb dL_law_33 (by rw [c_11]; decide) (by rw [c_11]; decide) (by rw [c_11]; rfl) (by decide) ?_
      exact law_c11 C0 hX hbl hXC hXP hN hin hR Kt H locs ls hP hD hS hl
    by_cases c_12 : v9 = 12
    · refine lv_tableIn (tgt := 566) hx hb dL_law_33 (by rw [c_12]; decide) (by rw [c_12]; decide) (by rw [c_12]; rfl) (by decide) ?_
      exact law_c12 C0 hX hbl hXC hXP hN hin hR Kt H locs ls hP hD hS hl
    by_cases c_13 : v9 = 13
    · refine lv_tableIn (tgt := 589) hx hb dL_law_33 (by rw [c_13]; decide) (by rw [c_13]; decide) (by rw [c_13]; rfl) (by decide) ?_
      exact law_c13 C0 hX hbl hXC hXP hN hin hR Kt H locs ls hP hD hS hl
    by_cases c_14 : v9 = 14
    · refine lv_tableIn (tgt := 612) hx hb dL_law_33 (by rw [c_14]; decide) (by rw [c_14]; decide) (by rw [c_14]; rfl) (by decide) ?_
      exact law_c14 C0 hX hbl hXC hXP hN hin hR Kt H locs ls hP hD hS hl
    by_cases c_15 : v9 = 15
    · refine lv_tableIn (tgt := 625) hx hb dL_law_33 (by rw [c_15]; decide) (by rw [c_15]; decide) (by rw [c_15]; rfl) (by decide) ?_
      exact law_c15 C0 hX hbl hXC hXP hN hin hR Kt H locs ls hP hD hS hl
    by_cases c_16 : v9 = 16
    · refine lv_tableIn (tgt := 638) hx hb dL_law_33 (by rw [c_16]; decide) (by rw [c_16]; decide) (by rw [c_16]; rfl) (by decide) ?_
      exact law_c16 C0 hX hbl hXC hXP hN hin hR Kt H locs ls hP hD hS hl
    by_cases c_17 : v9 = 17
    · refine lv_tableIn (tgt := 651) hx hb dL_law_33 (by rw [c_17]; decide) (by rw [c_17]; decide) (by rw [c_17]; rfl) (by decide) ?_
      exact law_c17 C0 hX hbl hXC hXP hN hin hR Kt H locs ls hP hD hS hl
    by_cases c_18 : v9 = 18
    · refine lv_tableIn (tgt := 664) hx hb dL_law_33 (by rw [c_18]; decide) (by rw [c_18]; decide) (by rw [c_18]; rfl) (by decide) ?_
      exact law_c18 C0 hX hbl hXC hXP hN hin hR Kt H locs ls hP hD hS hl
    by_cases c_19 : v9 = 19
    · refine lv_tableIn (tgt := 698) hx hb dL_law_33 (by rw [c_19]; decide) (by rw [c_19]; decide) (by rw [c_19]; rfl) (by decide) ?_
      exact law_c19 C0 hX hbl hXC hXP hN hin hR Kt H locs ls hP hD hS hl
    by_cases c_20 : v9 = 20
    · refine lv_tableIn (tgt := 731) hx hb dL_law_33 (by rw [c_20]; decide) (by rw [c_20]; decide) (by rw [c_20]; rfl) (by decide) ?_
      exact law_c20 C0 hX hbl hXC hXP hN hin hR Kt H locs ls hP hD hS hl
    by_cases c_21 : v9 = 21
    · refine lv_tableIn (tgt := 744) hx hb dL_law_33 (by rw [c_21]; decide) (by rw [c_21]; decide) (by rw [c_21]; rfl) (by decide) ?_
      exact law_c21 C0 hX hbl hXC hXP hN hin hR Kt H locs ls hP hD hS hl
    by_cases c_22 : v9 = 22
    · refine lv_tableIn (tgt := 757) hx hb dL_law_33 (by rw [c_22]; decide) (by rw [c_22]; decide) (by rw [c_22]; rfl) (by decide) ?_
      exact law_c22 C0 hX hbl hXC hXP hN hin hR Kt H locs ls hP hD hS hl
    by_cases c_23 : v9 = 23
    · refine lv_tableIn (tgt := 770) hx hb dL_law_33 (by rw [c_23]; decide) (by rw [c_23]; decide) (by rw [c_23]; rfl) (by decide) ?_
      exact law_c23 C0 hX hbl hXC hXP hN hin hR Kt H locs ls hP hD hS hl
    by_cases c_24 : v9 = 24
    · refine lv_tableIn (tgt := 813) hx hb dL_law_33 (by rw [c_24]; decide) (by rw [c_24]; decide) (by rw [c_24]; rfl) (by decide) ?_
      exact law_c24 C0 hX hbl hXC hXP hN hin hR Kt H locs ls hP hD hS hl
    refine lv_tableOut (tgt := 836) hx hb dL_law_33 (sw_out25 c_0 c_1 c_2 c_3 c_4 c_5 c_6 c_7 c_8 c_9 c_10 c_11 c_12 c_13 c_14 c_15 c_16 c_17 c_18 c_19 c_20 c_21 c_22 c_23 c_24) (by decide) ?_
    exact Kt bCount cSize cMeet cChg cSeed rRules rCount mRules mAgents mMeet mChg mSeed mListed told weights trial twos outs states lastMet por confs near leads agrees answers hopes opens most ready rows longer pOf qOf xOf yOf toldBy weightOf stateOf metAt manyIn codeOf farOf leadsTo answerOf comesTo mostOn rowsTo rowsThen hR H locs ls hP hD hS hl
end
