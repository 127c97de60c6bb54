/-! ===== the class's number of a configuration: another one for each ===== -/
def tN : Nat → Nat := fun k => ([0, 1, 2, 3, 4, 5, 6, 7, 8, 9, 10, 0, 0, 1, 3, 6, 10, 15, 21, 28, 36, 45, 0, 0, 0, 1, 4, 10, 20, 35, 56, 84, 120, 0, 0, 0, 0, 1, 5, 15, 35, 70, 126, 210, 0, 0, 0, 0, 0, 1, 6, 21, 56, 126, 252] : List Nat).getD k 0
def dL : List Nat := [0, 2401, 2744, 2793, 2800, 2801, 4802, 5145, 5194, 5201, 5202, 5488, 5537, 5544, 5545, 5586, 5593, 5594, 5600, 5601, 5602, 7203, 7546, 7595, 7602, 7603, 7889, 7938, 7945, 7946, 7987, 7994, 7995, 8001, 8002, 8003, 8232, 8281, 8288, 8289, 8330, 8337, 8338, 8344, 8345, 8346, 8379, 8386, 8387, 8393, 8394, 8395, 8400, 8401, 8402, 8403, 9604, 9947, 9996, 10003, 10004, 10290, 10339, 10346, 10347, 10388, 10395, 10396, 10402, 10403, 10404, 10633, 10682, 10689, 10690, 10731, 10738, 10739, 10745, 10746, 10747, 10780, 10787, 10788, 10794, 10795, 10796, 10801, 10802, 10803, 10804, 10976, 11025, 11032, 11033, 11074, 11081, 11082, 11088, 11089, 11090, 11123, 11130, 11131, 11137, 11138, 11139, 11144, 11145, 11146, 11147, 11172, 11179, 11180, 11186, 11187, 11188, 11193, 11194, 11195, 11196, 11200, 11201, 11202, 11203, 11204, 12005, 12348, 12397, 12404, 12405, 12691, 12740, 12747, 12748, 12789, 12796, 12797, 12803, 12804, 12805, 13034, 13083, 13090, 13091, 13132, 13139, 13140, 13146, 13147, 13148, 13181, 13188, 13189, 13195, 13196, 13197, 13202, 13203, 13204, 13205, 13377, 13426, 13433, 13434, 13475, 13482, 13483, 13489, 13490, 13491, 13524, 13531, 13532, 13538, 13539, 13540, 13545, 13546, 13547, 13548, 13573, 13580, 13581, 13587, 13588, 13589, 13594, 13595, 13596, 13597, 13601, 13602, 13603, 13604, 13605, 13720, 13769, 13776, 13777, 13818, 13825, 13826, 13832, 13833, 13834, 13867, 13874, 13875, 13881, 13882, 13883, 13888, 13889, 13890, 13891, 13916, 13923, 13924, 13930, 13931, 13932, 13937, 13938, 13939, 13940, 13944, 13945, 13946, 13947, 13948, 13965, 13972, 13973, 13979, 13980, 13981, 13986, 13987, 13988, 13989, 13993, 13994, 13995, 13996, 13997, 14000, 14001, 14002, 14003, 14004, 14005, 14406, 14749, 14798, 14805, 14806, 15092, 15141, 15148, 15149, 15190, 15197, 15198, 15204, 15205, 15206, 15435, 15484, 15491, 15492, 15533, 15540, 15541, 15547, 15548, 15549, 15582, 15589, 15590, 15596, 15597, 15598, 15603, 15604, 15605, 15606, 15778, 15827, 15834, 15835, 15876, 15883, 15884, 15890, 15891, 15892, 15925, 15932, 15933, 15939, 15940, 15941, 15946, 15947, 15948, 15949, 15974, 15981, 15982, 15988, 15989, 15990, 15995, 15996, 15997, 15998, 16002, 16003, 16004, 16005, 16006, 16121, 16170, 16177, 16178, 16219, 16226, 16227, 16233, 16234, 16235, 16268, 16275, 16276, 16282, 16283, 16284, 16289, 16290, 16291, 16292, 16317, 16324, 16325, 16331, 16332, 16333, 16338, 16339, 16340, 16341, 16345, 16346, 16347, 16348, 16349, 16366, 16373, 16374, 16380, 16381, 16382, 16387, 16388, 16389, 16390, 16394, 16395, 16396, 16397, 16398, 16401, 16402, 16403, 16404, 16405, 16406, 16464, 16513, 16520, 16521, 16562, 16569, 16570, 16576, 16577, 16578, 16611, 16618, 16619, 16625, 16626, 16627, 16632, 16633, 16634, 16635, 16660, 16667, 16668, 16674, 16675, 16676, 16681, 16682, 16683, 16684, 16688, 16689, 16690, 16691, 16692, 16709, 16716, 16717, 16723, 16724, 16725, 16730, 16731, 16732, 16733, 16737, 16738, 16739, 16740, 16741, 16744, 16745, 16746, 16747, 16748, 16749, 16758, 16765, 16766, 16772, 16773, 16774, 16779, 16780, 16781, 16782, 16786, 16787, 16788, 16789, 16790, 16793, 16794, 16795, 16796, 16797, 16798, 16800, 16801, 16802, 16803, 16804, 16805, 16806]
theorem tN_C : ∀ k : Fin 55, tbC k.val = nI (tN k.val) := by decide +kernel
def rkT (t0 t1 t2 t3 t4 : Nat) : Nat := tN t0 + tN (12 + t1) + tN (24 + t2) + tN (36 + t3) + tN (48 + t4)
def rkOk : Bool := (List.range 7).all fun t0 => (List.range 7).all fun t1 => decide (t1 < t0) || (List.range 7).all fun t2 => decide (t2 < t1) || (List.range 7).all fun t3 => decide (t3 < t2) || (List.range 7).all fun t4 => decide (t4 < t3) || (decide (rkT t0 t1 t2 t3 t4 < 462) && decide (dL.getD (rkT t0 t1 t2 t3 t4) 0 = t0 + 7 * t1 + 49 * t2 + 343 * t3 + 2401 * t4))
theorem rkOk_t : rkOk = true := by decide +kernel
theorem rk_tab {t0 t1 t2 t3 t4 : Nat} (h1 : t0 ≤ t1) (h2 : t1 ≤ t2) (h3 : t2 ≤ t3) (h4 : t3 ≤ t4) (h5 : t4 ≤ 6) : rkT t0 t1 t2 t3 t4 < 462 ∧ dL.getD (rkT t0 t1 t2 t3 t4) 0 = t0 + 7 * t1 + 49 * t2 + 343 * t3 + 2401 * t4 := by
  have h := rkOk_t
  unfold rkOk at h
  have a0 := List.all_eq_true.mp h t0 (List.mem_range.mpr (by omega))
  have a1 := List.all_eq_true.mp a0 t1 (List.mem_range.mpr (by omega))
  rw [decide_eq_false (by omega), Bool.false_or] at a1
  have a2 := List.all_eq_true.mp a1 t2 (List.mem_range.mpr (by omega))
  rw [decide_eq_false (by omega), Bool.false_or] at a2
  have a3 := List.all_eq_true.mp a2 t3 (List.mem_range.mpr (by omega))
  rw [decide_eq_false (by omega), Bool.false_or] at a3
  have a4 := List.all_eq_true.mp a3 t4 (List.mem_range.mpr (by omega))
  rw [decide_eq_false (by omega), Bool.false_or, Bool.and_eq_true] at a4
  exact ⟨of_decide_eq_true a4.1, of_decide_eq_true a4.2⟩
theorem dig1 {a b A B : Nat} (ha : a < 7) (hb : b < 7) (h : a + 7 * A = b + 7 * B) : a = b ∧ A = B := by omega
theorem dig5 {a0 a1 a2 a3 a4 b0 b1 b2 b3 b4 : Nat} (h0 : a0 < 7) (h1 : a1 < 7) (h2 : a2 < 7) (h3 : a3 < 7) (g0 : b0 < 7) (g1 : b1 < 7) (g2 : b2 < 7) (g3 : b3 < 7) (h : a0 + 7 * a1 + 49 * a2 + 343 * a3 + 2401 * a4 = b0 + 7 * b1 + 49 * b2 + 343 * b3 + 2401 * b4) : a0 = b0 ∧ a1 = b1 ∧ a2 = b2 ∧ a3 = b3 ∧ a4 = b4 := by
  obtain ⟨e0, k0⟩ := dig1 (A := a1 + 7 * (a2 + 7 * (a3 + 7 * a4))) (B := b1 + 7 * (b2 + 7 * (b3 + 7 * b4))) h0 g0 (by rw [Nat.mul_add, Nat.mul_add 7 b1, Nat.mul_add, Nat.mul_add 7 b2, Nat.mul_add, Nat.mul_add 7 b3]; omega)
  obtain ⟨e1, k1⟩ := dig1 h1 g1 k0
  obtain ⟨e2, k2⟩ := dig1 h2 g2 k1
  obtain ⟨e3, k3⟩ := dig1 h3 g3 k2
  exact ⟨e0, e1, e2, e3, k3⟩
def rk (C : Nat → Nat) : Nat := rkT (C 0) (C 0 + C 1) (C 0 + C 1 + C 2) (C 0 + C 1 + C 2 + C 3) (C 0 + C 1 + C 2 + C 3 + C 4)
theorem rk_lt {C : Nat → Nat} (h : csum C ≤ 6) : rk C < 462 := by
  unfold csum at h
  exact (rk_tab (Nat.le_add_right _ _) (Nat.le_add_right _ _) (Nat.le_add_right _ _) (Nat.le_add_right _ _) (by omega)).1
theorem rk_cod {t0 t1 t2 t3 t4 u0 u1 u2 u3 u4 : Nat} (h1 : t0 ≤ t1) (h2 : t1 ≤ t2) (h3 : t2 ≤ t3) (h4 : t3 ≤ t4) (h5 : t4 ≤ 6) (g1 : u0 ≤ u1) (g2 : u1 ≤ u2) (g3 : u2 ≤ u3) (g4 : u3 ≤ u4) (g5 : u4 ≤ 6) (h : rkT t0 t1 t2 t3 t4 = rkT u0 u1 u2 u3 u4) : t0 + 7 * t1 + 49 * t2 + 343 * t3 + 2401 * t4 = u0 + 7 * u1 + 49 * u2 + 343 * u3 + 2401 * u4 := by
  have a := (rk_tab h1 h2 h3 h4 h5).2
  have b := (rk_tab g1 g2 g3 g4 g5).2
  rw [h] at a
  exact a.symm.trans b
theorem rk_inj {C D : Nat → Nat} (hC : csum C ≤ 6) (hD : csum C = csum D) (h : rk C = rk D) : ∀ s, s < 6 → C s = D s := by
  unfold csum at hC hD
  have a := rk_cod (Nat.le_add_right _ _) (Nat.le_add_right _ _) (Nat.le_add_right _ _) (Nat.le_add_right _ _) (by clear h; omega) (Nat.le_add_right _ _) (Nat.le_add_right _ _) (Nat.le_add_right _ _) (Nat.le_add_right _ _) (by clear h; omega) h
  clear h
  obtain ⟨e0, e1, e2, e3, e4⟩ := dig5 (by omega) (by omega) (by omega) (by omega) (by omega) (by omega) (by omega) (by omega) a
  have f1 : C 1 = D 1 := by omega
  have f2 : C 2 = D 2 := by omega
  have f3 : C 3 = D 3 := by omega
  have f4 : C 4 = D 4 := by omega
  have f5 : C 5 = D 5 := by omega
  intro s hs
  rcases six hs with rfl | rfl | rfl | rfl | rfl | rfl <;> assumption
theorem rk_ext {C D : Nat → Nat} (h : ∀ s, s < 6 → C s = D s) : rk C = rk D := by
  unfold rk
  rw [h 0 (by omega), h 1 (by omega), h 2 (by omega), h 3 (by omega), h 4 (by omega)]
theorem q_rankb {N : Nat} {C : Nat → Nat} (h : csum C ≤ 6) {s r t : Nat} (hs : s < 5) (ht : t + C s ≤ 6) : f_X1_rank_b6 N (nI (pak C)) (nI r) (nI t) (nI s) = some (.inl (nI (r + tN (12 * s + (t + C s))), nI (t + C s), nI (s + 1))) := by
  unfold f_X1_rank_b6 nm
  have e1 : nI s * 11 + nI (t + C s) + nI s = nI (12 * s + (t + C s)) := by
    rw [zl 11, zmul, zadd, zadd]; congr 1; omega
  rw [nI_1, if_neg (by rw [zl 6, zle (by omega) (by omega)]; omega), q_countIn h (by omega)]
  simp only [bd1, zadd]
  rw [if_pos (by rw [zl 6, zle (by omega) (by omega)]; omega), e1, gd_t (zinb (show 12 * s + (t + C s) < 55 by omega) (by omega)), zcl (by omega), tN_C ⟨12 * s + (t + C s), by omega⟩, zadd]
