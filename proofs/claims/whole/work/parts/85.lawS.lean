set_option maxHeartbeats 4000000 in
set_option maxRecDepth 100000 in
theorem st_L {s : State} {b : Nat} (hts : ∀ w ∈ lw_tbl, w.before #[Value.ref b] s = true) (hgv : (Jvm.Cond.and given_1 narrow_1).before #[Value.ref b] s = true) : ∃ t : Nat, Stt "MetAgents" "LEADER" t 4 tbL (lwA s) s := by
  have hs := flat_of_before _ hgv
  have hA : ∀ a : Nat, a < s.heap.size → ¬ lwA s a := fun a h => Nat.not_le.mpr h
  have harr : (Cond.arrayOf (.static "MetAgents" "LEADER" "[I") .int).before #[Value.ref b] s = true := hs _ (by decide +kernel)
  have hlen : (Term.length (.static "MetAgents" "LEADER" "[I")).eval #[Value.ref b] s none [] s = some (.int (Int32.ofNat 4)) := va_eqt (hs (Cond.eq (.length (.static "MetAgents" "LEADER" "[I")) (.int (Int32.ofNat 4))) (by decide +kernel))
  have hel : ∀ j : Nat, j < 4 → (Term.elem (.static "MetAgents" "LEADER" "[I") (.int (Int32.ofNat j))).eval #[Value.ref b] s none [] s = some (.int (tbL j)) := by
    intro j hj
    rcases (show j = 0 ∨ j = 1 ∨ j = 2 ∨ j = 3 by omega) with rfl | rfl | rfl | rfl
    · exact va_eqt (hs (Cond.eq (.elem (.static "MetAgents" "LEADER" "[I") (.int (Int32.ofNat 0))) (.int (tbL 0))) (by decide +kernel))
    · exact va_eqt (hs (Cond.eq (.elem (.static "MetAgents" "LEADER" "[I") (.int (Int32.ofNat 1))) (.int (tbL 1))) (by decide +kernel))
    · exact va_eqt (hs (Cond.eq (.elem (.static "MetAgents" "LEADER" "[I") (.int (Int32.ofNat 2))) (.int (tbL 2))) (by decide +kernel))
    · exact va_eqt (hs (Cond.eq (.elem (.static "MetAgents" "LEADER" "[I") (.int (Int32.ofNat 3))) (.int (tbL 3))) (by decide +kernel))
  obtain ⟨t, ht, hT⟩ := va_Tof (f := fun j => .int (tbL j)) (by decide) harr hlen hel hA
  exact ⟨t, va_Zref (hts (.laysStatic "MetAgents" "LEADER" "[I") (by decide +kernel)) (hts (.initialized "MetAgents") (by decide +kernel)) ht hA, hT⟩
set_option maxHeartbeats 4000000 in
set_option maxRecDepth 100000 in
theorem st_M {s : State} {b : Nat} (hts : ∀ w ∈ lw_tbl, w.before #[Value.ref b] s = true) (hgv : (Jvm.Cond.and given_1 narrow_1).before #[Value.ref b] s = true) : ∃ t : Nat, Stt "MetAgents" "MAJORITY" t 24 tbM (lwA s) s := by
  have hs := flat_of_before _ hgv
  have hA : ∀ a : Nat, a < s.heap.size → ¬ lwA s a := fun a h => Nat.not_le.mpr h
  have harr : (Cond.arrayOf (.static "MetAgents" "MAJORITY" "[I") .int).before #[Value.ref b] s = true := hs _ (by decide +kernel)
  have hlen : (Term.length (.static "MetAgents" "MAJORITY" "[I")).eval #[Value.ref b] s none [] s = some (.int (Int32.ofNat 24)) := va_eqt (hs (Cond.eq (.length (.static "MetAgents" "MAJORITY" "[I")) (.int (Int32.ofNat 24))) (by decide +kernel))
  have hel : ∀ j : Nat, j < 24 → (Term.elem (.static "MetAgents" "MAJORITY" "[I") (.int (Int32.ofNat j))).eval #[Value.ref b] s none [] s = some (.int (tbM j)) := by
    intro j hj
    rcases (show j = 0 ∨ j = 1 ∨ j = 2 ∨ j = 3 ∨ j = 4 ∨ j = 5 ∨ j = 6 ∨ j = 7 ∨ j = 8 ∨ j = 9 ∨ j = 10 ∨ j = 11 ∨ j = 12 ∨ j = 13 ∨ j = 14 ∨ j = 15 ∨ j = 16 ∨ j = 17 ∨ j = 18 ∨ j = 19 ∨ j = 20 ∨ j = 21 ∨ j = 22 ∨ j = 23 by omega) with rfl | rfl | rfl | rfl | rfl | rfl | rfl | rfl | rfl | rfl | rfl | rfl | rfl | rfl | rfl | rfl | rfl | rfl | rfl | rfl | rfl | rfl | rfl | rfl
    · exact va_eqt (hs (Cond.eq (.elem (.static "MetAgents" "MAJORITY" "[I") (.int (Int32.ofNat 0))) (.int (tbM 0))) (by decide +kernel))
    · exact va_eqt (hs (Cond.eq (.elem (.static "MetAgents" "MAJORITY" "[I") (.int (Int32.ofNat 1))) (.int (tbM 1))) (by decide +kernel))
    · exact va_eqt (hs (Cond.eq (.elem (.static "MetAgents" "MAJORITY" "[I") (.int (Int32.ofNat 2))) (.int (tbM 2))) (by decide +kernel))
    · exact va_eqt (hs (Cond.eq (.elem (.static "MetAgents" "MAJORITY" "[I") (.int (Int32.ofNat 3))) (.int (tbM 3))) (by decide +kernel))
    · exact va_eqt (hs (Cond.eq (.elem (.static "MetAgents" "MAJORITY" "[I") (.int (Int32.ofNat 4))) (.int (tbM 4))) (by decide +kernel))
    · exact va_eqt (hs (Cond.eq (.elem (.static "MetAgents" "MAJORITY" "[I") (.int (Int32.ofNat 5))) (.int (tbM 5))) (by decide +kernel))
    · exact va_eqt (hs (Cond.eq (.elem (.static "MetAgents" "MAJORITY" "[I") (.int (Int32.ofNat 6))) (.int (tbM 6))) (by decide +kernel))
    · exact va_eqt (hs (Cond.eq (.elem (.static "MetAgents" "MAJORITY" "[I") (.int (Int32.ofNat 7))) (.int (tbM 7))) (by decide +kernel))
    · exact va_eqt (hs (Cond.eq (.elem (.static "MetAgents" "MAJORITY" "[I") (.int (Int32.ofNat 8))) (.int (tbM 8))) (by decide +kernel))
    · exact va_eqt (hs (Cond.eq (.elem (.static "MetAgents" "MAJORITY" "[I") (.int (Int32.ofNat 9))) (.int (tbM 9))) (by decide +kernel))
    · exact va_eqt (hs (Cond.eq (.elem (.static "MetAgents" "MAJORITY" "[I") (.int (Int32.ofNat 10))) (.int (tbM 10))) (by decide +kernel))
    · exact va_eqt (hs (Cond.eq (.elem (.static "MetAgents" "MAJORITY" "[I") (.int (Int32.ofNat 11))) (.int (tbM 11))) (by decide +kernel))
    · exact va_eqt (hs (Cond.eq (.elem (.static "MetAgents" "MAJORITY" "[I") (.int (Int32.ofNat 12))) (.int (tbM 12))) (by decide +kernel))
    · exact va_eqt (hs (Cond.eq (.elem (.static "MetAgents" "MAJORITY" "[I") (.int (Int32.ofNat 13))) (.int (tbM 13))) (by decide +kernel))
    · exact va_eqt (hs (Cond.eq (.elem (.static "MetAgents" "MAJORITY" "[I") (.int (Int32.ofNat 14))) (.int (tbM 14))) (by decide +kernel))
    · exact va_eqt (hs (Cond.eq (.elem (.static "MetAgents" "MAJORITY" "[I") (.int (Int32.ofNat 15))) (.int (tbM 15))) (by decide +kernel))
    · exact va_eqt (hs (Cond.eq (.elem (.static "MetAgents" "MAJORITY" "[I") (.int (Int32.ofNat 16))) (.int (tbM 16))) (by decide +kernel))
    · exact va_eqt (hs (Cond.eq (.elem (.static "MetAgents" "MAJORITY" "[I") (.int (Int32.ofNat 17))) (.int (tbM 17))) (by decide +kernel))
    · exact va_eqt (hs (Cond.eq (.elem (.static "MetAgents" "MAJORITY" "[I") (.int (Int32.ofNat 18))) (.int (tbM 18))) (by decide +kernel))
    · exact va_eqt (hs (Cond.eq (.elem (.static "MetAgents" "MAJORITY" "[I") (.int (Int32.ofNat 19))) (.int (tbM 19))) (by decide +kernel))
    · exact va_eqt (hs (Cond.eq (.elem (.static "MetAgents" "MAJORITY" "[I") (.int (Int32.ofNat 20))) (.int (tbM 20))) (by decide +kernel))
    · exact va_eqt (hs (Cond.eq (.elem (.static "MetAgents" "MAJORITY" "[I") (.int (Int32.ofNat 21))) (.int (tbM 21))) (by decide +kernel))
    · exact va_eqt (hs (Cond.eq (.elem (.static "MetAgents" "MAJORITY" "[I") (.int (Int32.ofNat 22))) (.int (tbM 22))) (by decide +kernel))
    · exact va_eqt (hs (Cond.eq (.elem (.static "MetAgents" "MAJORITY" "[I") (.int (Int32.ofNat 23))) (.int (tbM 23))) (by decide +kernel))
  obtain ⟨t, ht, hT⟩ := va_Tof (f := fun j => .int (tbM j)) (by decide) harr hlen hel hA
  exact ⟨t, va_Zref (hts (.laysStatic "MetAgents" "MAJORITY" "[I") (by decide +kernel)) (hts (.initialized "MetAgents") (by decide +kernel)) ht hA, hT⟩
set_option maxHeartbeats 4000000 in
set_option maxRecDepth 100000 in
theorem st_H {s : State} {b : Nat} (hts : ∀ w ∈ lw_tbl, w.before #[Value.ref b] s = true) (hgv : (Jvm.Cond.and given_1 narrow_1).before #[Value.ref b] s = true) : ∃ t : Nat, Stt "MetAgents" "HEAPS" t 24 tbH (lwA s) s := by
  have hs := flat_of_before _ hgv
  have hA : ∀ a : Nat, a < s.heap.size → ¬ lwA s a := fun a h => Nat.not_le.mpr h
  have harr : (Cond.arrayOf (.static "MetAgents" "HEAPS" "[I") .int).before #[Value.ref b] s = true := hs _ (by decide +kernel)
  have hlen : (Term.length (.static "MetAgents" "HEAPS" "[I")).eval #[Value.ref b] s none [] s = some (.int (Int32.ofNat 24)) := va_eqt (hs (Cond.eq (.length (.static "MetAgents" "HEAPS" "[I")) (.int (Int32.ofNat 24))) (by decide +kernel))
  have hel : ∀ j : Nat, j < 24 → (Term.elem (.static "MetAgents" "HEAPS" "[I") (.int (Int32.ofNat j))).eval #[Value.ref b] s none [] s = some (.int (tbH j)) := by
    intro j hj
    rcases (show j = 0 ∨ j = 1 ∨ j = 2 ∨ j = 3 ∨ j = 4 ∨ j = 5 ∨ j = 6 ∨ j = 7 ∨ j = 8 ∨ j = 9 ∨ j = 10 ∨ j = 11 ∨ j = 12 ∨ j = 13 ∨ j = 14 ∨ j = 15 ∨ j = 16 ∨ j = 17 ∨ j = 18 ∨ j = 19 ∨ j = 20 ∨ j = 21 ∨ j = 22 ∨ j = 23 by omega) with rfl | rfl | rfl | rfl | rfl | rfl | rfl | rfl | rfl | rfl | rfl | rfl | rfl | rfl | rfl | rfl | rfl | rfl | rfl | rfl | rfl | rfl | rfl | rfl
    · exact va_eqt (hs (Cond.eq (.elem (.static "MetAgents" "HEAPS" "[I") (.int (Int32.ofNat 0))) (.int (tbH 0))) (by decide +kernel))
    · exact va_eqt (hs (Cond.eq (.elem (.static "MetAgents" "HEAPS" "[I") (.int (Int32.ofNat 1))) (.int (tbH 1))) (by decide +kernel))
    · exact va_eqt (hs (Cond.eq (.elem (.static "MetAgents" "HEAPS" "[I") (.int (Int32.ofNat 2))) (.int (tbH 2))) (by decide +kernel))
    · exact va_eqt (hs (Cond.eq (.elem (.static "MetAgents" "HEAPS" "[I") (.int (Int32.ofNat 3))) (.int (tbH 3))) (by decide +kernel))
    · exact va_eqt (hs (Cond.eq (.elem (.static "MetAgents" "HEAPS" "[I") (.int (Int32.ofNat 4))) (.int (tbH 4))) (by decide +kernel))
    · exact va_eqt (hs (Cond.eq (.elem (.static "MetAgents" "HEAPS" "[I") (.int (Int32.ofNat 5))) (.int (tbH 5))) (by decide +kernel))
    · exact va_eqt (hs (Cond.eq (.elem (.static "MetAgents" "HEAPS" "[I") (.int (Int32.ofNat 6))) (.int (tbH 6))) (by decide +kernel))
    · exact va_eqt (hs (Cond.eq (.elem (.static "MetAgents" "HEAPS" "[I") (.int (Int32.ofNat 7))) (.int (tbH 7))) (by decide +kernel))
    · exact va_eqt (hs (Cond.eq (.elem (.static "MetAgents" "HEAPS" "[I") (.int (Int32.ofNat 8))) (.int (tbH 8))) (by decide +kernel))
    · exact va_eqt (hs (Cond.eq (.elem (.static "MetAgents" "HEAPS" "[I") (.int (Int32.ofNat 9))) (.int (tbH 9))) (by decide +kernel))
    · exact va_eqt (hs (Cond.eq (.elem (.static "MetAgents" "HEAPS" "[I") (.int (Int32.ofNat 10))) (.int (tbH 10))) (by decide +kernel))
    · exact va_eqt (hs (Cond.eq (.elem (.static "MetAgents" "HEAPS" "[I") (.int (Int32.ofNat 11))) (.int (tbH 11))) (by decide +kernel))
    · exact va_eqt (hs (Cond.eq (.elem (.static "MetAgents" "HEAPS" "[I") (.int (Int32.ofNat 12))) (.int (tbH 12))) (by decide +kernel))
    · exact va_eqt (hs (Cond.eq (.elem (.static "MetAgents" "HEAPS" "[I") (.int (Int32.ofNat 13))) (.int (tbH 13))) (by decide +kernel))
    · exact va_eqt (hs (Cond.eq (.elem (.static "MetAgents" "HEAPS" "[I") (.int (Int32.ofNat 14))) (.int (tbH 14))) (by decide +kernel))
    · exact va_eqt (hs (Cond.eq (.elem (.static "MetAgents" "HEAPS" "[I") (.int (Int32.ofNat 15))) (.int (tbH 15))) (by decide +kernel))
    · exact va_eqt (hs (Cond.eq (.elem (.static "MetAgents" "HEAPS" "[I") (.int (Int32.ofNat 16))) (.int (tbH 16))) (by decide +kernel))
    · exact va_eqt (hs (Cond.eq (.elem (.static "MetAgents" "HEAPS" "[I") (.int (Int32.ofNat 17))) (.int (tbH 17))) (by decide +kernel))
    · exact va_eqt (hs (Cond.eq (.elem (.static "MetAgents" "HEAPS" "[I") (.int (Int32.ofNat 18))) (.int (tbH 18))) (by decide +kernel))
    · exact va_eqt (hs (Cond.eq (.elem (.static "MetAgents" "HEAPS" "[I") (.int (Int32.ofNat 19))) (.int (tbH 19))) (by decide +kernel))
    · exact va_eqt (hs (Cond.eq (.elem (.static "MetAgents" "HEAPS" "[I") (.int (Int32.ofNat 20))) (.int (tbH 20))) (by decide +kernel))
    · exact va_eqt (hs (Cond.eq (.elem (.static "MetAgents" "HEAPS" "[I") (.int (Int32.ofNat 21))) (.int (tbH 21))) (by decide +kernel))
    · exact va_eqt (hs (Cond.eq (.elem (.static "MetAgents" "HEAPS" "[I") (.int (Int32.ofNat 22))) (.int (tbH 22))) (by decide +kernel))
    · exact va_eqt (hs (Cond.eq (.elem (.static "MetAgents" "HEAPS" "[I") (.int (Int32.ofNat 23))) (.int (tbH 23))) (by decide +kernel))
  obtain ⟨t, ht, hT⟩ := va_Tof (f := fun j => .int (tbH j)) (by decide) harr hlen hel hA
  exact ⟨t, va_Zref (hts (.laysStatic "MetAgents" "HEAPS" "[I") (by decide +kernel)) (hts (.initialized "MetAgents") (by decide +kernel)) ht hA, hT⟩
set_option maxHeartbeats 4000000 in
set_option maxRecDepth 100000 in
theorem st_C {s : State} {b : Nat} (hts : ∀ w ∈ lw_tbl, w.before #[Value.ref b] s = true) (hgv : (Jvm.Cond.and given_1 narrow_1).before #[Value.ref b] s = true) : ∃ t : Nat, Stt "MetAgents$Configuration" "CHOICES" t 55 tbC (lwA s) s := by
  have hs := flat_of_before _ hgv
  have hA : ∀ a : Nat, a < s.heap.size → ¬ lwA s a := fun a h => Nat.not_le.mpr h
  have harr : (Cond.arrayOf (.static "MetAgents$Configuration" "CHOICES" "[I") .int).before #[Value.ref b] s = true := hs _ (by decide +kernel)
  have hlen : (Term.length (.static "MetAgents$Configuration" "CHOICES" "[I")).eval #[Value.ref b] s none [] s = some (.int (Int32.ofNat 55)) := va_eqt (hs (Cond.eq (.length (.static "MetAgents$Configuration" "CHOICES" "[I")) (.int (Int32.ofNat 55))) (by decide +kernel))
  have hel : ∀ j : Nat, j < 55 → (Term.elem (.static "MetAgents$Configuration" "CHOICES" "[I") (.int (Int32.ofNat j))).eval #[Value.ref b] s none [] s = some (.int (tbC j)) := by
    intro j hj
    rcases (show j = 0 ∨ j = 1 ∨ j = 2 ∨ j = 3 ∨ j = 4 ∨ j = 5 ∨ j = 6 ∨ j = 7 ∨ j = 8 ∨ j = 9 ∨ j = 10 ∨ j = 11 ∨ j = 12 ∨ j = 13 ∨ j = 14 ∨ j = 15 ∨ j = 16 ∨ j = 17 ∨ j = 18 ∨ j = 19 ∨ j = 20 ∨ j = 21 ∨ j = 22 ∨ j = 23 ∨ j = 24 ∨ j = 25 ∨ j = 26 ∨ j = 27 ∨ j = 28 ∨ j = 29 ∨ j = 30 ∨ j = 31 ∨ j = 32 ∨ j = 33 ∨ j = 34 ∨ j = 35 ∨ j = 36 ∨ j = 37 ∨ j = 38 ∨ j = 39 ∨ j = 40 ∨ j = 41 ∨ j = 42 ∨ j = 43 ∨ j = 44 ∨ j = 45 ∨ j = 46 ∨ j = 47 ∨ j = 48 ∨ j = 49 ∨ j = 50 ∨ j = 51 ∨ j = 52 ∨ j = 53 ∨ j = 54 by omega) with rfl | rfl | rfl | rfl | rfl | rfl | rfl | rfl | rfl | rfl | rfl | rfl | rfl | rfl | rfl | rfl | rfl | rfl | rfl | rfl | rfl | rfl | rfl | rfl | rfl | rfl | rfl | rfl | rfl | rfl | rfl | rfl | rfl | rfl | rfl | rfl | rfl | rfl | rfl | rfl | rfl | rfl | rfl | rfl | rfl | rfl | rfl | rfl | rfl | rfl | rfl | rfl | rfl | rfl | rfl
    · exact va_eqt (hs (Cond.eq (.elem (.static "MetAgents$Configuration" "CHOICES" "[I") (.int (Int32.ofNat 0))) (.int (tbC 0))) (by decide +kernel))
    · exact va_eqt (hs (Cond.eq (.elem (.static "MetAgents$Configuration" "CHOICES" "[I") (.int (Int32.ofNat 1))) (.int (tbC 1))) (by decide +kernel))
    · exact va_eqt (hs (Cond.eq (.elem (.static "MetAgents$Configuration" "CHOICES" "[I") (.int (Int32.ofNat 2))) (.int (tbC 2))) (by decide +kernel))
    · exact va_eqt (hs (Cond.eq (.elem (.static "MetAgents$Configuration" "CHOICES" "[I") (.int (Int32.ofNat 3))) (.int (tbC 3))) (by decide +kernel))
    · exact va_eqt (hs (Cond.eq (.elem (.static "MetAgents$Configuration" "CHOICES" "[I") (.int (Int32.ofNat 4))) (.int (tbC 4))) (by decide +kernel))
    · exact va_eqt (hs (Cond.eq (.elem (.static "MetAgents$Configuration" "CHOICES" "[I") (.int (Int32.ofNat 5))) (.int (tbC 5))) (by decide +kernel))
    · exact va_eqt (hs (Cond.eq (.elem (.static "MetAgents$Configuration" "CHOICES" "[I") (.int (Int32.ofNat 6))) (.int (tbC 6))) (by decide +kernel))
    · exact va_eqt (hs (Cond.eq (.elem (.static "MetAgents$Configuration" "CHOICES" "[I") (.int (Int32.ofNat 7))) (.int (tbC 7))) (by decide +kernel))
    · exact va_eqt (hs (Cond.eq (.elem (.static "MetAgents$Configuration" "CHOICES" "[I") (.int (Int32.ofNat 8))) (.int (tbC 8))) (by decide +kernel))
    · exact va_eqt (hs (Cond.eq (.elem (.static "MetAgents$Configuration" "CHOICES" "[I") (.int (Int32.ofNat 9))) (.int (tbC 9))) (by decide +kernel))
    · exact va_eqt (hs (Cond.eq (.elem (.static "MetAgents$Configuration" "CHOICES" "[I") (.int (Int32.ofNat 10))) (.int (tbC 10))) (by decide +kernel))
    · exact va_eqt (hs (Cond.eq (.elem (.static "MetAgents$Configuration" "CHOICES" "[I") (.int (Int32.ofNat 11))) (.int (tbC 11))) (by decide +kernel))
    · exact va_eqt (hs (Cond.eq (.elem (.static "MetAgents$Configuration" "CHOICES" "[I") (.int (Int32.ofNat 12))) (.int (tbC 12))) (by decide +kernel))
    · exact va_eqt (hs (Cond.eq (.elem (.static "MetAgents$Configuration" "CHOICES" "[I") (.int (Int32.ofNat 13))) (.int (tbC 13))) (by decide +kernel))
    · exact va_eqt (hs (Cond.eq (.elem (.static "MetAgents$Configuration" "CHOICES" "[I") (.int (Int32.ofNat 14))) (.int (tbC 14))) (by decide +kernel))
    · exact va_eqt (hs (Cond.eq (.elem (.static "MetAgents$Configuration" "CHOICES" "[I") (.int (Int32.ofNat 15))) (.int (tbC 15))) (by decide +kernel))
    · exact va_eqt (hs (Cond.eq (.elem (.static "MetAgents$Configuration" "CHOICES" "[I") (.int (Int32.ofNat 16))) (.int (tbC 16))) (by decide +kernel))
    · exact va_eqt (hs (Cond.eq (.elem (.static "MetAgents$Configuration" "CHOICES" "[I") (.int (Int32.ofNat 17))) (.int (tbC 17))) (by decide +kernel))
    · exact va_eqt (hs (Cond.eq (.elem (.static "MetAgents$Configuration" "CHOICES" "[I") (.int (Int32.ofNat 18))) (.int (tbC 18))) (by decide +kernel))
    · exact va_eqt (hs (Cond.eq (.elem (.static "MetAgents$Configuration" "CHOICES" "[I") (.int (Int32.ofNat 19))) (.int (tbC 19))) (by decide +kernel))
    · exact va_eqt (hs (Cond.eq (.elem (.static "MetAgents$Configuration" "CHOICES" "[I") (.int (Int32.ofNat 20))) (.int (tbC 20))) (by decide +kernel))
    · exact va_eqt (hs (Cond.eq (.elem (.static "MetAgents$Configuration" "CHOICES" "[I") (.int (Int32.ofNat 21))) (.int (tbC 21))) (by decide +kernel))
    · exact va_eqt (hs (Cond.eq (.elem (.static "MetAgents$Configuration" "CHOICES" "[I") (.int (Int32.ofNat 22))) (.int (tbC 22))) (by decide +kernel))
    · exact va_eqt (hs (Cond.eq (.elem (.static "MetAgents$Configuration" "CHOICES" "[I") (.int (Int32.ofNat 23))) (.int (tbC 23))) (by decide +kernel))
    · exact va_eqt (hs (Cond.eq (.elem (.static "MetAgents$Configuration" "CHOICES" "[I") (.int (Int32.ofNat 24))) (.int (tbC 24))) (by decide +kernel))
    · exact va_eqt (hs (Cond.eq (.elem (.static "MetAgents$Configuration" "CHOICES" "[I") (.int (Int32.ofNat 25))) (.int (tbC 25))) (by decide +kernel))
    · exact va_eqt (hs (Cond.eq (.elem (.static "MetAgents$Configuration" "CHOICES" "[I") (.int (Int32.ofNat 26))) (.int (tbC 26))) (by decide +kernel))
    · exact va_eqt (hs (Cond.eq (.elem (.static "MetAgents$Configuration" "CHOICES" "[I") (.int (Int32.ofNat 27))) (.int (tbC 27))) (by decide +kernel))
    · exact va_eqt (hs (Cond.eq (.elem (.static "MetAgents$Configuration" "CHOICES" "[I") (.int (Int32.ofNat 28))) (.int (tbC 28))) (by decide +kernel))
    · exact va_eqt (hs (Cond.eq (.elem (.static "MetAgents$Configuration" "CHOICES" "[I") (.int (Int32.ofNat 29))) (.int (tbC 29))) (by decide +kernel))
    · exact va_eqt (hs (Cond.eq (.elem (.static "MetAgents$Configuration" "CHOICES" "[I") (.int (Int32.ofNat 30))) (.int (tbC 30))) (by decide +kernel))
    · exact va_eqt (hs (Cond.eq (.elem (.static "MetAgents$Configuration" "CHOICES" "[I") (.int (Int32.ofNat 31))) (.int (tbC 31))) (by decide +kernel))
    · exact va_eqt (hs (Cond.eq (.elem (.static "MetAgents$Configuration" "CHOICES" "[I") (.int (Int32.ofNat 32))) (.int (tbC 32))) (by decide +kernel))
    · exact va_eqt (hs (Cond.eq (.elem (.static "MetAgents$Configuration" "CHOICES" "[I") (.int (Int32.ofNat 33))) (.int (tbC 33))) (by decide +kernel))
    · exact va_eqt (hs (Cond.eq (.elem (.static "MetAgents$Configuration" "CHOICES" "[I") (.int (Int32.ofNat 34))) (.int (tbC 34))) (by decide +kernel))
    · exact va_eqt (hs (Cond.eq (.elem (.static "MetAgents$Configuration" "CHOICES" "[I") (.int (Int32.ofNat 35))) (.int (tbC 35))) (by decide +kernel))
    · exact va_eqt (hs (Cond.eq (.elem (.static "MetAgents$Configuration" "CHOICES" "[I") (.int (Int32.ofNat 36))) (.int (tbC 36))) (by decide +kernel))
    · exact va_eqt (hs (Cond.eq (.elem (.static "MetAgents$Configuration" "CHOICES" "[I") (.int (Int32.ofNat 37))) (.int (tbC 37))) (by decide +kernel))
    · exact va_eqt (hs (Cond.eq (.elem (.static "MetAgents$Configuration" "CHOICES" "[I") (.int (Int32.ofNat 38))) (.int (tbC 38))) (by decide +kernel))
    · exact va_eqt (hs (Cond.eq (.elem (.static "MetAgents$Configuration" "CHOICES" "[I") (.int (Int32.ofNat 39))) (.int (tbC 39))) (by decide +kernel))
    · exact va_eqt (hs (Cond.eq (.elem (.static "MetAgents$Configuration" "CHOICES" "[I") (.int (Int32.ofNat 40))) (.int (tbC 40))) (by decide +kernel))
    · exact va_eqt (hs (Cond.eq (.elem (.static "MetAgents$Configuration" "CHOICES" "[I") (.int (Int32.ofNat 41))) (.int (tbC 41))) (by decide +kernel))
    · exact va_eqt (hs (Cond.eq (.elem (.static "MetAgents$Configuration" "CHOICES" "[I") (.int (Int32.ofNat 42))) (.int (tbC 42))) (by decide +kernel))
    · exact va_eqt (hs (Cond.eq (.elem (.static "MetAgents$Configuration" "CHOICES" "[I") (.int (Int32.ofNat 43))) (.int (tbC 43))) (by decide +kernel))
    · exact va_eqt (hs (Cond.eq (.elem (.static "MetAgents$Configuration" "CHOICES" "[I") (.int (Int32.ofNat 44))) (.int (tbC 44))) (by decide +kernel))
    · exact va_eqt (hs (Cond.eq (.elem (.static "MetAgents$Configuration" "CHOICES" "[I") (.int (Int32.ofNat 45))) (.int (tbC 45))) (by decide +kernel))
    · exact va_eqt (hs (Cond.eq (.elem (.static "MetAgents$Configuration" "CHOICES" "[I") (.int (Int32.ofNat 46))) (.int (tbC 46))) (by decide +kernel))
    · exact va_eqt (hs (Cond.eq (.elem (.static "MetAgents$Configuration" "CHOICES" "[I") (.int (Int32.ofNat 47))) (.int (tbC 47))) (by decide +kernel))
    · exact va_eqt (hs (Cond.eq (.elem (.static "MetAgents$Configuration" "CHOICES" "[I") (.int (Int32.ofNat 48))) (.int (tbC 48))) (by decide +kernel))
    · exact va_eqt (hs (Cond.eq (.elem (.static "MetAgents$Configuration" "CHOICES" "[I") (.int (Int32.ofNat 49))) (.int (tbC 49))) (by decide +kernel))
    · exact va_eqt (hs (Cond.eq (.elem (.static "MetAgents$Configuration" "CHOICES" "[I") (.int (Int32.ofNat 50))) (.int (tbC 50))) (by decide +kernel))
    · exact va_eqt (hs (Cond.eq (.elem (.static "MetAgents$Configuration" "CHOICES" "[I") (.int (Int32.ofNat 51))) (.int (tbC 51))) (by decide +kernel))
    · exact va_eqt (hs (Cond.eq (.elem (.static "MetAgents$Configuration" "CHOICES" "[I") (.int (Int32.ofNat 52))) (.int (tbC 52))) (by decide +kernel))
    · exact va_eqt (hs (Cond.eq (.elem (.static "MetAgents$Configuration" "CHOICES" "[I") (.int (Int32.ofNat 53))) (.int (tbC 53))) (by decide +kernel))
    · exact va_eqt (hs (Cond.eq (.elem (.static "MetAgents$Configuration" "CHOICES" "[I") (.int (Int32.ofNat 54))) (.int (tbC 54))) (by decide +kernel))
  obtain ⟨t, ht, hT⟩ := va_Tof (f := fun j => .int (tbC j)) (by decide) harr hlen hel hA
  exact ⟨t, va_Zref (hts (.laysStatic "MetAgents$Configuration" "CHOICES" "[I") (by decide +kernel)) (hts (.initialized "MetAgents$Configuration") (by decide +kernel)) ht hA, hT⟩
