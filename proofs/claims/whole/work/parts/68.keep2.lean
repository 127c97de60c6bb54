/-! ===== keepers: the class ===== -/
theorem zor (a b : Nat) : nI a ||| nI b = nI (a ||| b) := Int32.toBitVec_inj.1 (by rw [Int32.toBitVec_or]; exact BitVec.ofNat_or.symm)
theorem zbit {s : Nat} (hs : s < 6) : (1 : Int32) <<< (nI s &&& 31) = nI (2 ^ s) := by
  have h : ∀ k : Fin 6, (1 : Int32) <<< (nI k.val &&& 31) = nI (2 ^ k.val) := by decide
  exact h ⟨s, hs⟩
theorem zshr {s M : Nat} (hs : s < 6) (hM : M < 64) : nI M >>> (nI s &&& 31) = nI (M / 2 ^ s) := by
  rcases (show s = 0 ∨ s = 1 ∨ s = 2 ∨ s = 3 ∨ s = 4 ∨ s = 5 by omega) with rfl | rfl | rfl | rfl | rfl | rfl
  · exact pk_shrN (by omega) _ 0 (by decide)
  · exact pk_shrN (by omega) _ 1 (by decide)
  · exact pk_shrN (by omega) _ 2 (by decide)
  · exact pk_shrN (by omega) _ 3 (by decide)
  · exact pk_shrN (by omega) _ 4 (by decide)
  · exact pk_shrN (by omega) _ 5 (by decide)
def mk4 (P Q X Y : Nat → Nat) (k : Nat) : Nat := ((2 ^ P k ||| 2 ^ Q k) ||| 2 ^ X k) ||| 2 ^ Y k
def orM (f : Nat → Nat) : Nat → Nat
  | 0 => 0
  | n + 1 => orM f n ||| f n
theorem two_le {a s : Nat} (h : a ≤ s) : 2 ^ a < 2 ^ (s + 1) := Nat.pow_lt_pow_right (by omega) (by omega)
section KC
variable {N c : Nat} {P Q X Y : Nat → Nat} {twos outs pOf qOf xOf yOf : Nat → Int32}
theorem mk4_lt {k s : Nat} (h : tp P Q X Y k ≤ s) : mk4 P Q X Y k < 2 ^ (s + 1) := by
  have := tp_le (P := P) (Q := Q) (X := X) (Y := Y) k
  exact Nat.or_lt_two_pow (Nat.or_lt_two_pow (Nat.or_lt_two_pow (two_le (by omega)) (two_le (by omega))) (two_le (by omega))) (two_le (by omega))
theorem mk4_ge (k : Nat) : 2 ^ tp P Q X Y k ≤ mk4 P Q X Y k := by
  unfold mk4
  have a1 : 2 ^ P k ≤ 2 ^ P k ||| 2 ^ Q k := Nat.left_le_or
  have a2 : 2 ^ Q k ≤ 2 ^ P k ||| 2 ^ Q k := Nat.right_le_or
  have a3 : 2 ^ P k ||| 2 ^ Q k ≤ 2 ^ P k ||| 2 ^ Q k ||| 2 ^ X k := Nat.left_le_or
  have a4 : 2 ^ X k ≤ 2 ^ P k ||| 2 ^ Q k ||| 2 ^ X k := Nat.right_le_or
  have a5 : 2 ^ P k ||| 2 ^ Q k ||| 2 ^ X k ≤ 2 ^ P k ||| 2 ^ Q k ||| 2 ^ X k ||| 2 ^ Y k := Nat.left_le_or
  have a6 : 2 ^ Y k ≤ 2 ^ P k ||| 2 ^ Q k ||| 2 ^ X k ||| 2 ^ Y k := Nat.right_le_or
  rcases tp_is (P := P) (Q := Q) (X := X) (Y := Y) k with q | q | q | q
  · rw [q]; exact Nat.le_trans a1 (Nat.le_trans a3 a5)
  · rw [q]; exact Nat.le_trans a2 (Nat.le_trans a3 a5)
  · rw [q]; exact Nat.le_trans a4 a5
  · rw [q]; exact a6
theorem mk4_top {k s : Nat} (hs : s < 6) (h : tp P Q X Y k < 6) : mk4 P Q X Y k / 2 ^ s = 1 ↔ tp P Q X Y k = s := by
  have h1 := mk4_lt (P := P) (Q := Q) (X := X) (Y := Y) (k := k) (Nat.le_refl _)
  have h2 := mk4_ge (P := P) (Q := Q) (X := X) (Y := Y) k
  generalize mk4 P Q X Y k = x at h1 h2
  generalize tp P Q X Y k = t at h h1 h2
  have key : x / 2 ^ s = 1 ↔ 2 ^ s ≤ x ∧ x < 2 ^ (s + 1) := by
    have hp : 0 < 2 ^ s := Nat.two_pow_pos s
    rw [Nat.pow_succ]
    constructor
    · intro e
      have a := Nat.div_add_mod x (2 ^ s)
      have b := Nat.mod_lt x hp
      rw [e] at a
      omega
    · rintro ⟨a, b⟩
      rw [Nat.div_eq_iff hp]
      omega
  rw [key]
  constructor
  · rintro ⟨a, b⟩
    have c1 : s < t + 1 := (Nat.pow_lt_pow_iff_right (a := 2) (by omega)).mp (by omega)
    have c2 : t < s + 1 := (Nat.pow_lt_pow_iff_right (a := 2) (by omega)).mp (by omega)
    omega
  · rintro rfl
    exact ⟨h2, h1⟩
theorem mk4_bit (k t : Nat) : Nat.testBit (mk4 P Q X Y k) t = true ↔ (P k = t ∨ Q k = t ∨ X k = t ∨ Y k = t) := by
  unfold mk4
  rw [Nat.testBit_or, Nat.testBit_or, Nat.testBit_or, Nat.testBit_two_pow, Nat.testBit_two_pow, Nat.testBit_two_pow, Nat.testBit_two_pow]
  simp only [Bool.or_eq_true, decide_eq_true_eq]
  constructor
  · rintro (((h | h) | h) | h)
    · exact Or.inl h
    · exact Or.inr (Or.inl h)
    · exact Or.inr (Or.inr (Or.inl h))
    · exact Or.inr (Or.inr (Or.inr h))
  · rintro (h | h | h | h)
    · exact Or.inl (Or.inl (Or.inl h))
    · exact Or.inl (Or.inl (Or.inr h))
    · exact Or.inl (Or.inr h)
    · exact Or.inr h
theorem orM_bit (f : Nat → Nat) (t : Nat) : ∀ n, Nat.testBit (orM f n) t = true ↔ ∃ k, k < n ∧ Nat.testBit (f k) t = true := by
  intro n
  induction n with
  | zero =>
    constructor
    · intro h; rw [orM, Nat.zero_testBit] at h; cases h
    · rintro ⟨k, hk, _⟩; exact absurd hk (Nat.not_lt_zero k)
  | succ n ih =>
    rw [orM, Nat.testBit_or, Bool.or_eq_true, ih]
    constructor
    · rintro (⟨k, hk, h⟩ | h)
      · exact ⟨k, by omega, h⟩
      · exact ⟨n, by omega, h⟩
    · rintro ⟨k, hk, h⟩
      rcases Nat.lt_or_ge k n with q | q
      · exact Or.inl ⟨k, q, h⟩
      · have : k = n := by omega
        rw [this] at h; exact Or.inr h
theorem orM_lt (f : Nat → Nat) : ∀ n, (∀ k, k < n → f k < 64) → orM f n < 64 := by
  intro n
  induction n with
  | zero => intro _; exact (by decide : (0 : Nat) < 64)
  | succ n ih =>
    intro h
    exact Nat.or_lt_two_pow (n := 6) (ih (fun k hk => h k (by omega))) (h n (by omega))
theorem q_named (hB : RBd c P Q X Y twos outs pOf qOf xOf yOf) {k : Nat} (hk : k < c) : f_X4_statesNamedAt N (nI k) twos outs = some (nI (mk4 P Q X Y k)) := by
  have r := hB.2.1 k hk
  unfold f_X4_statesNamedAt
  rw [q_twoAt hB hk, q_outcomeAt hB hk]
  simp only [bd1]
  rw [q_first (by omega), q_second (by omega), q_first (by omega), q_second (by omega), d6 r.2.1, m6 r.2.1, d6 r.2.2.2, m6 r.2.2.2]
  simp only []
  rw [zbit r.1, zbit r.2.1, zbit r.2.2.1, zbit r.2.2.2, zor, zor, zor]
  rfl
theorem q_trialKept (hN : 20000 ≤ N) (hB : RBd c P Q X Y twos outs pOf qOf xOf yOf) {s : Nat} (hs : s < 6) {trial : Nat → Int32} {d : Nat → Nat} (hd : ∀ t, t ≤ s → Nam c P Q X Y t → d t < 5 ∧ trial t = nI (d t) - 2) :
    (okS c P Q X Y s d = true ∧ f_X6_isKeptSoFar_trial N (nI s) (nI c) trial twos outs = some 1) ∨ (¬ okS c P Q X Y s d = true ∧ f_X6_isKeptSoFar_trial N (nI s) (nI c) trial twos outs = some 0) := by
  have hc := hB.1
  have S := scan (b := fun (w9 : Int32) => f_X6_isKeptSoFar_trial_b2 N (nI s) (nI c) trial twos outs w9) (v := (0 : Int32)) (fun k => tp P Q X Y k = s ∧ kp P Q X Y d k = false) (N := N) (c := c) (by omega)
    (fun k hk => by
      have r := hB.2.1 k hk
      have htp : tp P Q X Y k < 6 := by unfold tp; omega
      have hlt : mk4 P Q X Y k < 64 := mk4_lt (s := 5) (by omega)
      unfold f_X6_isKeptSoFar_trial_b2 nm
      dsimp only
      rw [if_neg (by rw [zle (by omega) (by omega)]; omega), q_named hB hk]
      simp only [bd1]
      rw [zshr hs hlt]
      have hd2 : mk4 P Q X Y k / 2 ^ s < 2147483648 := by
        have := Nat.div_le_self (mk4 P Q X Y k) (2 ^ s)
        omega
      by_cases q : tp P Q X Y k = s
      · rw [if_pos (by rw [(mk4_top hs htp).mpr q]; rfl), q_isKeptT hB trial hk]
        simp only []
        have tl := tp_le (P := P) (Q := Q) (X := X) (Y := Y) k
        obtain ⟨p1, p2⟩ := hd (P k) (by omega) ⟨k, hk, Or.inl rfl⟩
        obtain ⟨q1, q2⟩ := hd (Q k) (by omega) ⟨k, hk, Or.inr (Or.inl rfl)⟩
        obtain ⟨x1, x2⟩ := hd (X k) (by omega) ⟨k, hk, Or.inr (Or.inr (Or.inl rfl))⟩
        obtain ⟨y1, y2⟩ := hd (Y k) (by omega) ⟨k, hk, Or.inr (Or.inr (Or.inr rfl))⟩
        rw [p2, q2, x2, y2]
        have iff := wq p1 q1 x1 y1
        by_cases e : d (P k) + d (Q k) = d (X k) + d (Y k)
        · refine Or.inr ⟨fun z => ?_, ?_⟩
          · have := z.2
            unfold kp at this
            rw [decide_eq_true e] at this; cases this
          · rw [if_pos (iff.mpr e), if_neg (by decide), nI_1]
        · refine Or.inl ⟨⟨q, decide_eq_false e⟩, ?_⟩
          rw [if_neg (fun z => e (iff.mp z)), if_pos rfl]
      · refine Or.inr ⟨fun z => q z.1, ?_⟩
        rw [if_neg (by rw [zl 1, zeq hd2 (by omega), mk4_top hs htp]; exact q), nI_1])
    (by
      show f_X6_isKeptSoFar_trial_b2 N (nI s) (nI c) trial twos outs (nI c) = _
      unfold f_X6_isKeptSoFar_trial_b2
      rw [if_pos (Int32.le_refl _)])
  unfold f_X6_isKeptSoFar_trial
  rcases S with ⟨⟨k, hk, h1, h2⟩, e⟩ | ⟨h, e⟩
  · refine Or.inr ⟨fun z => ?_, by rw [e]; rfl⟩
    rw [okS_iff.mp z k hk h1] at h2; cases h2
  · refine Or.inl ⟨okS_iff.mpr (fun k hk ht => ?_), by rw [e]; rfl⟩
    cases q : kp P Q X Y d k with
    | true => rfl
    | false => exact absurd ⟨ht, q⟩ (h k hk)
theorem q_countKept (hN : 20000 ≤ N) (hB : RBd c P Q X Y twos outs pOf qOf xOf yOf) : ∀ (j : Nat), j ≤ 6 → ∀ (f : Nat), j < f → ∀ (d : Nat → Nat) (trial : Nat → Int32), (∀ t, t < 6 - j → Nam c P Q X Y t → d t < 5 ∧ trial t = nI (d t) - 2) →
    ∃ trial', F_X6_countKept_trial N f (nI (6 - j)) (nI (orM (mk4 P Q X Y) c)) (nI c) trial twos outs = some (nI (Nk c P Q X Y j d), trial') ∧ ∀ t, t < 6 - j → trial' t = trial t := by
  have hM : orM (mk4 P Q X Y) c < 64 := orM_lt _ c (fun k hk => by
    have r := hB.2.1 k hk
    exact mk4_lt (s := 5) (by unfold tp; omega))
  have hnam : ∀ t, Nat.testBit (orM (mk4 P Q X Y) c) t = true ↔ Nam c P Q X Y t := by
    intro t
    rw [orM_bit]
    constructor
    · rintro ⟨k, hk, h⟩; exact ⟨k, hk, (mk4_bit k t).mp h⟩
    · rintro ⟨k, hk, h⟩; exact ⟨k, hk, (mk4_bit k t).mpr h⟩
  generalize orM (mk4 P Q X Y) c = M at hM hnam
  intro j
  induction j with
  | zero =>
    intro _ f hf d trial _
    obtain ⟨f', rfl⟩ : ∃ f', f = f' + 1 := ⟨f - 1, by omega⟩
    refine ⟨trial, ?_, fun _ _ => rfl⟩
    show f_X6_countKept_trial (F_X6_countKept_trial N f') N (nI 6) (nI M) (nI c) trial twos outs = some (1, trial)
    unfold f_X6_countKept_trial
    rw [if_neg (by decide)]
  | succ j ih =>
    intro hj f hf d trial hd
    obtain ⟨f', rfl⟩ : ∃ f', f = f' + 1 := ⟨f - 1, by omega⟩
    have e2 : 6 - (j + 1) = 5 - j := by omega
    have e1 : 6 - j = (5 - j) + 1 := by omega
    rw [e2] at hd ⊢
    have hs : 5 - j < 6 := by omega
    show ∃ trial', f_X6_countKept_trial (F_X6_countKept_trial N f') N (nI (5 - j)) (nI M) (nI c) trial twos outs = _ ∧ _
    have hq : nI (5 - j) < 6 := by rw [zl 6, zlt (by omega) (by omega)]; exact hs
    have hbit : ((nI M >>> (nI (5 - j) &&& 31)) &&& 1) = nI (M / 2 ^ (5 - j) % 2) := by
      rw [zshr hs hM]
      have := Nat.div_le_self M (2 ^ (5 - j))
      exact pk_andN (by omega) 1 (by decide)
    unfold f_X6_countKept_trial
    rw [if_pos hq, hbit]
    by_cases hn : Nam c P Q X Y (5 - j)
    · have hb := (hnam (5 - j)).mpr hn
      rw [Nat.testBit_eq_decide_div_mod_eq] at hb
      rw [of_decide_eq_true hb, if_neg (by decide)]
      have w2 : ∀ w, w < 5 → ¬ (2 : Int32) < nI w - 2 ∧ (nI w - 2) + 1 = nI (w + 1) - 2 := by
        intro w hw
        have h : ∀ k : Fin 5, ¬ (2 : Int32) < nI k.val - 2 ∧ (nI k.val - 2) + 1 = nI (k.val + 1) - 2 := by decide
        exact h ⟨w, hw⟩
      obtain ⟨⟨z1, z2⟩, l1, l2, l3⟩ := loop_idx (b := fun (w9 : Int32 × Int32 × (Nat → Int32)) => f_X6_countKept_trial_b35 (F_X6_countKept_trial N f') N (nI (5 - j)) (nI M) (nI c) twos outs w9.1 w9.2.1 w9.2.2)
        (fun w x => x.2.1 = nI w - 2 ∧ x.1 = nI (tot (fun w => if okS c P Q X Y (5 - j) (st d (5 - j) w) = true then Nk c P Q X Y j (st d (5 - j) w) else 0) w) ∧ ∀ t, t < 5 - j → x.2.2 t = trial t)
        (fun z => z.1 = nI (tot (fun w => if okS c P Q X Y (5 - j) (st d (5 - j) w) = true then Nk c P Q X Y j (st d (5 - j) w) else 0) 5) ∧ ∀ t, t < 5 - j → z.2 t = trial t) 5
        (fun w x hw hI => by
          obtain ⟨x3, x4, tr⟩ := x
          obtain ⟨a1, a2, a3⟩ := hI
          dsimp only at a1 a2 a3
          subst a1; subst a2
          obtain ⟨u1, u2⟩ := w2 w hw
          have b6 : inb (nI (5 - j)) 6 = true := zinb hs (by omega)
          have hd' : ∀ t, t ≤ 5 - j → Nam c P Q X Y t → st d (5 - j) w t < 5 ∧ upd tr (5 - j) (nI w - 2) t = nI (st d (5 - j) w t) - 2 := by
            intro t ht hnt
            rw [upd_eq]
            unfold st
            by_cases q : t = 5 - j
            · rw [if_pos q, if_pos q]; exact ⟨hw, rfl⟩
            · rw [if_neg q, if_neg q, a3 t (by omega)]; exact hd t (by omega) hnt
          left
          show ∃ y, f_X6_countKept_trial_b35 (F_X6_countKept_trial N f') N (nI (5 - j)) (nI M) (nI c) twos outs _ (nI w - 2) tr = _ ∧ _
          unfold f_X6_countKept_trial_b35 nm
          rw [if_neg u1, gd_t b6, zcl (show 5 - j < 2147483648 by omega), u2]
          dsimp only
          rcases q_trialKept (N := N) hN hB hs hd' with ⟨k1, k2⟩ | ⟨k1, k2⟩
          · obtain ⟨tr', g1, g2⟩ := ih (by omega) f' (by omega) (st d (5 - j) w) (upd tr (5 - j) (nI w - 2)) (fun t ht hnt => hd' t (by omega) hnt)
            rw [e1] at g1 g2
            rw [k2]
            simp only [bd1]
            rw [if_neg (by decide), nI_1, g1]
            simp only [bd2]
            refine ⟨_, rfl, rfl, ?_, fun t ht => ?_⟩
            · dsimp only
              rw [zadd, tot, if_pos k1]
            · dsimp only
              rw [g2 t (by omega), upd_eq, if_neg (by omega)]
              exact a3 t ht
          · rw [k2]
            simp only [bd1]
            rw [if_pos trivial]
            refine ⟨_, rfl, rfl, ?_, fun t ht => ?_⟩
            · dsimp only
              rw [tot, if_neg k1, Nat.add_zero]
            · dsimp only
              rw [upd_eq, if_neg (by omega)]
              exact a3 t ht)
        (fun x hI => by
          obtain ⟨x3, x4, tr⟩ := x
          obtain ⟨a1, a2, a3⟩ := hI
          dsimp only at a1 a2 a3
          subst a1
          refine ⟨(x3, tr), ?_, a2, a3⟩
          show f_X6_countKept_trial_b35 (F_X6_countKept_trial N f') N (nI (5 - j)) (nI M) (nI c) twos outs x3 (nI 5 - 2) tr = _
          unfold f_X6_countKept_trial_b35
          rw [if_pos (by decide)]) N 0 (0, -2, trial) (Nat.zero_le _) (by omega) ⟨show (-2 : Int32) = nI 0 - 2 by decide, rfl, fun _ _ => rfl⟩
      dsimp only at l2 l3
      refine ⟨z2, ?_, l3⟩
      rw [l1]
      simp only [bd2]
      rw [l2, Nk]
    · have hb : ¬ Nat.testBit M (5 - j) = true := fun z => hn ((hnam (5 - j)).mp z)
      rw [Nat.testBit_eq_decide_div_mod_eq] at hb
      have hz : M / 2 ^ (5 - j) % 2 = 0 := by
        have : ¬ M / 2 ^ (5 - j) % 2 = 1 := fun z => hb (decide_eq_true z)
        omega
      rw [hz, if_pos (show nI 0 = 0 from rfl)]
      obtain ⟨tr', g1, g2⟩ := ih (by omega) f' (by omega) d trial (fun t ht hnt => hd t (by
        by_cases q : t = 5 - j
        · rw [q] at hnt; exact absurd hnt hn
        · omega) hnt)
      rw [e1] at g1 g2
      rw [nI_1, g1]
      refine ⟨tr', ?_, fun t ht => g2 t (by omega)⟩
      simp only [bd2]
      rw [zl 5, zmul, Nk_free hn]
end KC
theorem op_keepers {N : Nat} (hN : 20000 ≤ N) {bCount : Int32} {cSize : Int32} {cMeet : Int32} {cChg : Int32} {cSeed : Int32} {mRules : Int32} {mAgents : Int32} {mMeet : Int32} {mChg : Int32} {mSeed : Int32} {told : Nat → Int32} {weights : Nat → Int32} {twos : Nat → Int32} {outs : Nat → Int32} {states : Nat → Int32} {lastMet : Nat → Int32} {pOf : Nat → Int32} {qOf : Nat → Int32} {xOf : Nat → Int32} {yOf : Nat → Int32} {toldBy : Nat → Int32} {weightOf : Nat → Int32} {stateOf : Nat → Int32} {metAt : Nat → Int32} (hR : Rel bCount twos outs mRules pOf qOf xOf yOf cSize cMeet cChg cSeed states lastMet mAgents mMeet mChg mSeed stateOf metAt told toldBy weights weightOf) (trial : Nat → Int32) : ∃ (r9 : Int32) (trial9 : Nat → Int32), f_X6_keepers N bCount trial twos outs = some (r9, trial9) ∧ f_X7_keepers N mRules pOf qOf xOf yOf = some r9 ∧ Rel bCount twos outs mRules pOf qOf xOf yOf cSize cMeet cChg cSeed states lastMet mAgents mMeet mChg mSeed stateOf metAt told toldBy weights weightOf := by
  have hR0 := hR
  obtain ⟨⟨c, P, Q, X, Y, eb, er, hB⟩, -⟩ := hR
  subst eb; subst er
  have hc := hB.1
  have L := loop_cnt (b := fun (w9 : Int32 × Int32) => f_X6_keepers_b4 N (nI c) trial twos outs w9.1 w9.2) (fun k => (nI (orM (mk4 P Q X Y) k), nI k)) (nI (orM (mk4 P Q X Y) c)) c
    (fun k hk => by
      show f_X6_keepers_b4 N (nI c) trial twos outs (nI (orM (mk4 P Q X Y) k)) (nI k) = _
      unfold f_X6_keepers_b4 nm
      rw [if_neg (by rw [zle (by omega) (by omega)]; omega), q_named hB hk]
      simp only [bd1]
      rw [zor, nI_1]
      rfl)
    (by
      show f_X6_keepers_b4 N (nI c) trial twos outs (nI (orM (mk4 P Q X Y) c)) (nI c) = _
      unfold f_X6_keepers_b4
      rw [if_pos (Int32.le_refl _)]) N 0 (Nat.zero_le _) (by omega)
  have L' : loopN (fun (w9 : Int32 × Int32) => f_X6_keepers_b4 N (nI c) trial twos outs w9.1 w9.2) N (0, 0) = some (nI (orM (mk4 P Q X Y) c)) := L
  obtain ⟨tr', g1, -⟩ := q_countKept (N := N) hN hB 6 (by omega) 8 (by omega) (fun _ => 0) trial (fun t ht => absurd ht (by omega))
  refine ⟨nI (Nk c P Q X Y 6 (fun _ => 0)), tr', ?_, q_keep7 hN hB _, hR0⟩
  unfold f_X6_keepers
  rw [L']
  simp only [bd1]
  have g1' : F_X6_countKept_trial N 8 0 (nI (orM (mk4 P Q X Y) c)) (nI c) trial twos outs = some (nI (Nk c P Q X Y 6 (fun _ => 0)), tr') := g1
  rw [g1']
  rfl
