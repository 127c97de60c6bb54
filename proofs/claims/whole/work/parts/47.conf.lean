/-! ===== configurations ===== -/
def pak (C : Nat → Nat) : Nat := C 0 + 8 * C 1 + 64 * C 2 + 512 * C 3 + 4096 * C 4 + 32768 * C 5
def csum (C : Nat → Nat) : Nat := C 0 + C 1 + C 2 + C 3 + C 4 + C 5
def inc (C : Nat → Nat) (s : Nat) : Nat → Nat := fun t => if t = s then C t + 1 else C t
def dec (C : Nat → Nat) (s : Nat) : Nat → Nat := fun t => if t = s then C t - 1 else C t
theorem six {s : Nat} (h : s < 6) : s = 0 ∨ s = 1 ∨ s = 2 ∨ s = 3 ∨ s = 4 ∨ s = 5 := by omega
theorem pak_lt {C : Nat → Nat} (h : csum C ≤ 6) : pak C < 262144 := by
  unfold csum at h; unfold pak; omega
theorem cs_le {C : Nat → Nat} (h : csum C ≤ 6) {s : Nat} (hs : s < 6) : C s ≤ 6 := by
  unfold csum at h
  rcases six hs with rfl | rfl | rfl | rfl | rfl | rfl <;> omega
theorem pak_inc (C : Nat → Nat) {s : Nat} (hs : s < 6) : pak (inc C s) = pak C + 8 ^ s := by
  rcases six hs with rfl | rfl | rfl | rfl | rfl | rfl <;> simp [pak, inc] <;> omega
theorem csum_inc (C : Nat → Nat) {s : Nat} (hs : s < 6) : csum (inc C s) = csum C + 1 := by
  rcases six hs with rfl | rfl | rfl | rfl | rfl | rfl <;> simp [csum, inc] <;> omega
theorem pak_dec {C : Nat → Nat} {s : Nat} (hs : s < 6) (h : 1 ≤ C s) : pak (dec C s) + 8 ^ s = pak C := by
  rcases six hs with rfl | rfl | rfl | rfl | rfl | rfl <;> simp [pak, dec] <;> omega
theorem csum_dec {C : Nat → Nat} {s : Nat} (hs : s < 6) (h : 1 ≤ C s) : csum (dec C s) + 1 = csum C := by
  rcases six hs with rfl | rfl | rfl | rfl | rfl | rfl <;> simp [csum, dec] <;> omega
theorem q_countIn {N : Nat} {C : Nat → Nat} (h : csum C ≤ 6) {s : Nat} (hs : s < 6) : f_X1_countIn N (nI (pak C)) (nI s) = some (nI (C s)) := by
  have hp := pak_lt h
  unfold f_X1_countIn
  have a7 : ∀ x : Nat, x < 262144 → nI x &&& 7 = nI (x % 8) := fun x hx => pk_andN (by omega) 3 (by decide)
  unfold csum at h
  rcases six hs with rfl | rfl | rfl | rfl | rfl | rfl
  · rw [pk_shrN (by omega) _ 0 (by decide), a7 _ (by omega)]; congr 2; unfold pak; omega
  · rw [pk_shrN (by omega) _ 3 (by decide), a7 _ (by omega)]; congr 2; unfold pak; omega
  · rw [pk_shrN (by omega) _ 6 (by decide), a7 _ (by omega)]; congr 2; unfold pak; omega
  · rw [pk_shrN (by omega) _ 9 (by decide), a7 _ (by omega)]; congr 2; unfold pak; omega
  · rw [pk_shrN (by omega) _ 12 (by decide), a7 _ (by omega)]; congr 2; unfold pak; omega
  · rw [pk_shrN (by omega) _ 15 (by decide), a7 _ (by omega)]; congr 2; unfold pak; omega
theorem q_one {N s : Nat} (hs : s < 6) : f_X1_one N (nI s) = some (nI (8 ^ s)) := by
  unfold f_X1_one
  have h : ∀ k : Fin 6, (1 : Int32) <<< ((3 * nI k.val) &&& 31) = nI (8 ^ k.val) := by decide
  rw [h ⟨s, hs⟩]
def mt (C : Nat → Nat) (p q : Nat) : Nat := if p = q then C p * (C p - 1) else C p * C q
theorem q_meetingsOf {N : Nat} {C : Nat → Nat} (h : csum C ≤ 6) {p q : Nat} (hp : p < 6) (hq : q < 6) : f_X1_meetingsOf N (nI (pak C)) (nI (6 * p + q)) = some (nI (mt C p q)) := by
  unfold f_X1_meetingsOf mt
  rw [q_first (by omega), q_second (by omega), d6 hq, m6 hq]
  simp only [bd1, q_countIn h hp, q_countIn h hq]
  by_cases e : p = q
  · rw [if_pos (by rw [e]), if_pos e]
    rcases Nat.eq_zero_or_pos (C p) with h0 | h0
    · rw [h0]; rfl
    · rw [zl 1, zsub (by omega), zmul]
  · rw [if_neg (by rw [zeq (by omega) (by omega)]; exact e), if_neg e]
    rw [zmul]
/-- who can meet -/
def cm (C : Nat → Nat) (p q : Nat) : Prop := if p = q then 2 ≤ C p else 1 ≤ C p ∧ 1 ≤ C q
theorem mt_cm {C : Nat → Nat} {p q : Nat} : mt C p q = 0 ↔ ¬ cm C p q := by
  unfold mt cm
  split
  · constructor
    · intro h h2
      have := Nat.mul_pos (show 0 < C p by omega) (show 0 < C p - 1 by omega)
      omega
    · intro h
      rcases (show C p = 0 ∨ C p = 1 by omega) with h | h <;> rw [h]
  · constructor
    · intro h h2
      have := Nat.mul_pos (show 0 < C p by omega) (show 0 < C q by omega)
      omega
    · intro h
      rcases (show C p = 0 ∨ C q = 0 by omega) with h | h <;> rw [h]
      · exact Nat.zero_mul _
      · exact Nat.mul_zero _
def nx (C : Nat → Nat) (p q x y : Nat) : Nat → Nat := inc (inc (dec (dec C p) q) x) y
theorem cm1 {C : Nat → Nat} {p q : Nat} (h : cm C p q) : 1 ≤ C p ∧ 1 ≤ dec C p q := by
  unfold cm at h
  unfold dec
  split at h
  · next e => subst e; rw [if_pos rfl]; omega
  · next e => rw [if_neg (fun z => e z.symm)]; exact h
theorem csum_nx {C : Nat → Nat} {p q x y : Nat} (hp : p < 6) (hq : q < 6) (hx : x < 6) (hy : y < 6) (h : cm C p q) : csum (nx C p q x y) = csum C := by
  have h1 := cm1 h
  have a := csum_dec hp h1.1
  have b := csum_dec hq h1.2
  unfold nx
  rw [csum_inc _ hy, csum_inc _ hx]
  omega
theorem q_behind {N : Nat} {C : Nat → Nat} (h : csum C ≤ 6) {p q x y : Nat} (hp : p < 6) (hq : q < 6) (hx : x < 6) (hy : y < 6) (hc : cm C p q) : f_X1_behind N (nI (pak C)) (nI (6 * p + q)) (nI (6 * x + y)) = some (nI (pak (nx C p q x y))) := by
  have h1 := cm1 hc
  have a := pak_dec hp h1.1
  have b := pak_dec hq h1.2
  unfold f_X1_behind
  rw [q_first (show 6 * p + q < 36 by omega), q_second (show 6 * p + q < 36 by omega), q_first (show 6 * x + y < 36 by omega), q_second (show 6 * x + y < 36 by omega), d6 hq, m6 hq, d6 hy, m6 hy]
  simp only [bd1, q_one hp, q_one hq, q_one hx, q_one hy]
  rw [zsub (by omega), zsub (by omega), zadd, zadd]
  unfold nx
  rw [pak_inc _ hy, pak_inc _ hx]
  congr 2
  omega
def cnt (S : Nat → Nat) (i : Nat) : Nat → Nat := fun s => ct (fun a => decide (S a = s)) i
theorem cnt_succ (S : Nat → Nat) (i : Nat) : cnt S (i + 1) = inc (cnt S i) (S i) := by
  funext s
  unfold cnt inc
  rw [ct]
  by_cases e : s = S i
  · rw [if_pos e, if_pos (by simp [e])]
  · rw [if_neg e, if_neg (by simp; exact fun z => e z.symm)]; rfl
theorem csum_cnt {S : Nat → Nat} {i : Nat} (h : ∀ a, a < i → S a < 6) : csum (cnt S i) = i := by
  induction i with
  | zero => rfl
  | succ i ih => rw [cnt_succ, csum_inc _ (h i (by omega)), ih (fun a ha => h a (by omega))]
theorem q_conf {N n : Nat} (hN : 20000 ≤ N) (hn : n ≤ 6) {S : Nat → Nat} {states stateOf : Nat → Int32} (hS : RS n S states stateOf) : f_X2_configuration N (nI n) states = some (nI (pak (cnt S n))) := by
  have L := loop_cnt (b := fun (w9 : Int32 × Int32) => f_X2_configuration_b4 N (nI n) states w9.1 w9.2) (fun i => (nI (pak (cnt S i)), nI i)) (nI (pak (cnt S n))) n
    (fun i hi => by
      show f_X2_configuration_b4 N (nI n) states (nI (pak (cnt S i))) (nI i) = _
      have s := hS i hi
      unfold f_X2_configuration_b4 nm
      rw [if_neg (by rw [zle (by omega) (by omega)]; omega), gd_t (zinb (show i < 6 by omega) (by omega)), zcl (show i < 2147483648 by omega), s.2.1, q_one s.1, nI_1]
      show some (Sum.inl (nI (pak (cnt S i)) + nI (8 ^ S i), nI (i + 1))) = _
      rw [zadd, cnt_succ, pak_inc _ s.1])
    (by
      show f_X2_configuration_b4 N (nI n) states (nI (pak (cnt S n))) (nI n) = _
      unfold f_X2_configuration_b4
      rw [if_pos (Int32.le_refl _)]) N 0 (Nat.zero_le _) (by omega)
  unfold f_X2_configuration
  show bd1 (loopN _ N (nI (pak (cnt S 0)), nI 0)) _ = _
  rw [L]; rfl
theorem q_in7 {N n s : Nat} (hN : 20000 ≤ N) (hn : n ≤ 6) (hs : s < 6) {S : Nat → Nat} {states stateOf : Nat → Int32} (hS : RS n S states stateOf) : f_X7_in N (nI s) (nI n) stateOf = some (nI (cnt S n s)) := by
  have L := loop_cnt (b := fun (w9 : Int32 × Int32) => f_X7_in_b13 N (nI s) (nI n) stateOf w9.1 w9.2) (fun i => (nI (cnt S i s), nI i)) (nI (cnt S n s)) n
    (fun i hi => by
      show f_X7_in_b13 N (nI s) (nI n) stateOf (nI (cnt S i s)) (nI i) = _
      have q := hS i hi
      unfold f_X7_in_b13 nm
      rw [if_neg (by rw [zle (by omega) (by omega)]; omega), gd_t (zinb (show i < 6 by omega) (by omega)), zcl (show i < 2147483648 by omega), q.2.2, nI_1, nI_1, cnt_succ, Int32.add_zero]
      unfold inc
      by_cases e : S i = s
      · rw [if_pos (by rw [e]), if_pos e.symm]
      · rw [if_neg (by rw [zeq (by omega) (by omega)]; exact e), if_neg (fun z => e z.symm)])
    (by
      show f_X7_in_b13 N (nI s) (nI n) stateOf (nI (cnt S n s)) (nI n) = _
      unfold f_X7_in_b13
      rw [if_pos (Int32.le_refl _)]) N 0 (Nat.zero_le _) (by omega)
  unfold f_X7_in
  rcases q_st (nI s) with ⟨k, hk, e, h⟩ | h
  · rw [(h N).2]
    show bd1 (loopN _ N (nI (cnt S 0 s), nI 0)) _ = _
    rw [L]; rfl
  · have := (h N).1
    unfold f_X6_isState at this
    rw [if_neg (nI_pos (by omega)), if_neg (by rw [zl 6, zle (by omega) (by omega)]; omega)] at this
    cases this
theorem q_in {N n : Nat} (hN : 20000 ≤ N) (hn : n ≤ 6) {S : Nat → Nat} {states stateOf : Nat → Int32} (hS : RS n S states stateOf) (a1 : Int32) : ∃ r : Int32, f_X6_in N a1 (nI n) states = some r ∧ f_X7_in N a1 (nI n) stateOf = some r := by
  rcases q_st a1 with ⟨s, hs, rfl, h⟩ | h
  · refine ⟨nI (cnt S n s), ?_, q_in7 hN hn hs hS⟩
    unfold f_X6_in
    rw [(h N).1, q_conf hN hn hS]
    show bd1 (f_X1_countIn N _ _) _ = _
    rw [q_countIn (by rw [csum_cnt (fun a ha => (hS a ha).1)]; exact hn) hs]; rfl
  · refine ⟨-1, ?_, ?_⟩
    · unfold f_X6_in; rw [(h N).1]; rfl
    · unfold f_X7_in; rw [(h N).2]; rfl
/-! ===== the reference's code of a configuration ===== -/
def cod (C : Nat → Nat) : Nat := 16807 * C 0 + 2401 * C 1 + 343 * C 2 + 49 * C 3 + 7 * C 4 + C 5
theorem cod_inj {C D : Nat → Nat} (hC : csum C ≤ 6) (hD : csum D ≤ 6) (h : cod C = cod D) : ∀ s, s < 6 → C s = D s := by
  unfold cod at h
  unfold csum at hC hD
  have h5 : C 5 = D 5 := by omega
  have h4 : C 4 = D 4 := by omega
  have h3 : C 3 = D 3 := by omega
  have h2 : C 2 = D 2 := by omega
  have h1 : C 1 = D 1 := by omega
  have h0 : C 0 = D 0 := by omega
  intro s hs
  rcases six hs with rfl | rfl | rfl | rfl | rfl | rfl <;> assumption
theorem pak_ext {C D : Nat → Nat} (h : ∀ s, s < 6 → C s = D s) : pak C = pak D := by
  unfold pak
  rw [h 0 (by omega), h 1 (by omega), h 2 (by omega), h 3 (by omega), h 4 (by omega), h 5 (by omega)]
theorem cod_ext {C D : Nat → Nat} (h : ∀ s, s < 6 → C s = D s) : cod C = cod D := by
  unfold cod
  rw [h 0 (by omega), h 1 (by omega), h 2 (by omega), h 3 (by omega), h 4 (by omega), h 5 (by omega)]
theorem csum_ext {C D : Nat → Nat} (h : ∀ s, s < 6 → C s = D s) : csum C = csum D := by
  unfold csum
  rw [h 0 (by omega), h 1 (by omega), h 2 (by omega), h 3 (by omega), h 4 (by omega), h 5 (by omega)]
