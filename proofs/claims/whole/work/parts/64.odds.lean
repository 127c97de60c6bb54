/-! ===== odds: long numbers ===== -/
def nL (k : Nat) : Int64 := Int64.ofNat k
theorem lL (n : Nat) : (OfNat.ofNat n : Int64) = nL n := rfl
theorem ladd (a b : Nat) : nL a + nL b = nL (a + b) := (Int64.ofNat_add a b).symm
theorem lmul (a b : Nat) : nL a * nL b = nL (a * b) := (Int64.ofNat_mul a b).symm
theorem lsub {a b : Nat} (h : b ≤ a) : nL a - nL b = nL (a - b) := (Int64.ofNat_sub a b h).symm
theorem ldiv {a b : Nat} (ha : a < 9223372036854775808) (hb : b < 9223372036854775808) : nL a / nL b = nL (a / b) := (Int64.ofNat_div (by omega) (by omega)).symm
theorem lrem {a b : Nat} (ha : a < 9223372036854775808) (hb : b < 9223372036854775808) : nL a - nL a / nL b * nL b = nL (a % b) := by
  rw [ldiv ha hb, lmul, lsub (Nat.div_mul_le_self a b), Nat.mod_def, Nat.mul_comm]
theorem l32 {k : Nat} (h : k < 2147483648) : (nI k).toInt64 = nL k := Int32.toInt64_ofNat' (by show (k : Int) ≤ 2147483647; omega)
theorem leq {a b : Nat} (ha : a < 9223372036854775808) (hb : b < 9223372036854775808) (h : nL a = nL b) : a = b := by
  have h1 := congrArg Int64.toInt h
  unfold nL at h1
  rw [Int64.toInt_ofNat_of_lt (by omega), Int64.toInt_ofNat_of_lt (by omega)] at h1
  omega
theorem llt {a b : Nat} (ha : a < 9223372036854775808) (hb : b < 9223372036854775808) : nL a < nL b ↔ a < b := Int64.ofNat_lt_iff_lt (by omega) (by omega)
theorem lcmp0 {a : Nat} (ha : a < 9223372036854775808) (h0 : 0 < a) : lg_cmp (nL a) 0 = 1 := by
  unfold lg_cmp
  rw [if_pos]
  show nL 0 < nL a
  rw [llt (by omega) ha]; exact h0
theorem lcmp00 : lg_cmp (nL 0) 0 = 0 := by decide
theorem lcmp1 {a : Nat} (ha : a < 9223372036854775808) (h0 : 0 < a) : 0 ≤ lg_cmp (nL a) 1 := by
  unfold lg_cmp
  by_cases q : a = 1
  · subst q; decide
  · rw [if_pos]
    · decide
    · show nL 1 < nL a
      rw [llt (by omega) ha]; omega
theorem lnz {a : Nat} (ha : a < 9223372036854775808) (h0 : 0 < a) : nzl (nL a) = true := decide_eq_true (fun h => by
  have := leq ha (show 0 < 9223372036854775808 by omega) h
  omega)
theorem eu_half {a b : Nat} (h1 : 0 < a % b) (h2 : 0 < b) : 2 * (b % (a % b)) < b := by
  have h3 := Nat.mod_lt a h2
  have h4 := Nat.mod_lt b h1
  have h5 := Nat.div_add_mod b (a % b)
  have h6 : 1 ≤ b / (a % b) := (Nat.le_div_iff_mul_le h1).mpr (by omega)
  have h7 : a % b ≤ (a % b) * (b / (a % b)) := Nat.le_mul_of_pos_right _ h6
  omega
theorem q_gcd {N : Nat} : ∀ (k a b t n : Nat), a < 9223372036854775808 → b < 9223372036854775808 → b < 2 ^ k → t + 2 * k + 1 ≤ 200 → 2 * k + 1 < n → (0 < a ∨ 0 < b) →
    ∃ g, 0 < g ∧ g < 9223372036854775808 ∧ loopN (fun (w9 : Int64 × Int64 × Int32) => f_X6_commonDivisor_b9 N w9.1 w9.2.1 w9.2.2) n (nL a, nL b, nI t) = some (nL g) ∧ loopN (fun (w9 : Int64 × Int64) => f_X7_common_b6 N w9.1 w9.2) n (nL a, nL b) = some (nL g) := by
  have X6 : ∀ x t : Nat, f_X6_commonDivisor_b9 N (nL x) (nL 0) (nI t) = some (.inr (nL x)) := by
    intro x t
    unfold f_X6_commonDivisor_b9
    by_cases q : 200 ≤ nI t
    · rw [if_pos q]
    · rw [if_neg q, if_pos lcmp00]
  have X7 : ∀ x : Nat, f_X7_common_b6 N (nL x) (nL 0) = some (.inr (nL x)) := by
    intro x
    unfold f_X7_common_b6
    rw [if_pos (by rw [lcmp00]; decide)]
  have S6 : ∀ x y t : Nat, x < 9223372036854775808 → y < 9223372036854775808 → 0 < y → t < 200 → f_X6_commonDivisor_b9 N (nL x) (nL y) (nI t) = some (.inl (nL y, nL (x % y), nI (t + 1))) := by
    intro x y t hx hy h0 ht
    unfold f_X6_commonDivisor_b9 nm
    rw [if_neg (by rw [zl 200, zle (by omega) (by omega)]; omega), if_neg (by rw [lcmp0 hy h0]; decide), gd_t (lnz hy h0), lrem hx hy, nI_1]
  have S7 : ∀ x y : Nat, x < 9223372036854775808 → y < 9223372036854775808 → 0 < y → f_X7_common_b6 N (nL x) (nL y) = some (.inl (nL y, nL (x % y))) := by
    intro x y hx hy h0
    unfold f_X7_common_b6 nm
    rw [if_neg (by rw [lcmp0 hy h0]; decide), gd_t (lnz hy h0), lrem hx hy]
  intro k
  induction k with
  | zero =>
    intro a b t n ha hb hk ht hn h0
    have hb0 : b = 0 := by omega
    subst hb0
    obtain ⟨n', rfl⟩ : ∃ n', n = n' + 1 := ⟨n - 1, by omega⟩
    exact ⟨a, by omega, ha, loopN_r n' (X6 a t), loopN_r n' (X7 a)⟩
  | succ k ih =>
    intro a b t n ha hb hk ht hn h0
    obtain ⟨n', rfl⟩ : ∃ n', n = n' + 1 + 1 := ⟨n - 2, by omega⟩
    rcases Nat.eq_zero_or_pos b with hb0 | hb0
    · subst hb0
      exact ⟨a, by omega, ha, loopN_r _ (X6 a t), loopN_r _ (X7 a)⟩
    · have hr : a % b < b := Nat.mod_lt a hb0
      rw [loopN_l (n' + 1) (S6 a b t ha hb hb0 (by omega)), loopN_l (n' + 1) (S7 a b ha hb hb0)]
      rcases Nat.eq_zero_or_pos (a % b) with hr0 | hr0
      · rw [hr0]
        exact ⟨b, hb0, hb, loopN_r _ (X6 b (t + 1)), loopN_r _ (X7 b)⟩
      · rw [loopN_l n' (S6 b (a % b) (t + 1) hb (by omega) hr0 (by omega)), loopN_l n' (S7 b (a % b) hb (by omega) hr0)]
        have hh := eu_half hr0 hb0
        rw [Nat.pow_succ] at hk
        exact ih (a % b) (b % (a % b)) (t + 1 + 1) n' (by omega) (by omega) (by omega) (by omega) (by omega) (Or.inl hr0)
theorem q_fillL {N n : Nat} (hn : n < 2147483648) (hN : n < N) (v : Int64) (f : Nat → Int64) : ∃ g : Nat → Int64, f_J7_fill_d0a16 N n v f = some g ∧ (∀ t, t < n → g t = v) := by
  obtain ⟨g, h1, h2⟩ := loop_idx (b := fun (w9 : Int32 × (Nat → Int64)) => f_J7_fill_d0a16_b6 N n v (nI n) w9.1 w9.2) (fun i x => x.1 = nI i ∧ ∀ t, t < i → x.2 t = v) (fun g => ∀ t, t < n → g t = v) n
    (fun i x hi hI => by
      obtain ⟨x1, x2⟩ := x
      obtain ⟨rfl, h2⟩ := hI
      refine Or.inl ⟨(nI (i + 1), vp_updL x2 i v), ?_, rfl, fun t ht => ?_⟩
      · show f_J7_fill_d0a16_b6 N n v (nI n) (nI i) x2 = _
        unfold f_J7_fill_d0a16_b6 nm
        rw [if_neg (by rw [zle (by omega) (by omega)]; omega), gd_t (zinb hi hn), zcl (by omega), nI_1]
      · show vp_updL x2 i v t = v
        rw [updL_eq]
        split
        · rfl
        · exact h2 t (by omega))
    (fun x hI => by
      obtain ⟨x1, x2⟩ := x
      obtain ⟨rfl, h2⟩ := hI
      refine ⟨x2, ?_, h2⟩
      show f_J7_fill_d0a16_b6 N n v (nI n) (nI n) x2 = _
      unfold f_J7_fill_d0a16_b6
      rw [if_pos (Int32.le_refl _)]) N 0 (0, f) (Nat.zero_le _) (by omega) ⟨nI_0.symm, fun t ht => absurd ht (Nat.not_lt_zero t)⟩
  refine ⟨g, ?_, h2⟩
  show bd1 _ _ = _
  rw [h1]
  rfl
/-! ===== odds: how many ways there are ===== -/
theorem tot_ext {f g : Nat → Nat} : ∀ n, (∀ i, i < n → f i = g i) → tot f n = tot g n := by
  intro n
  induction n with
  | zero => intro _; rfl
  | succ n ih =>
    intro h
    rw [tot, tot, ih (fun i hi => h i (by omega)), h n (by omega)]
theorem tot_sub {f g : Nat → Nat} : ∀ n, (∀ i, i < n → f i ≤ g i) → tot f n ≤ tot g n := by
  intro n
  induction n with
  | zero => intro _; exact Nat.le_refl _
  | succ n ih =>
    intro h
    have a := ih (fun i hi => h i (by omega))
    have b := h n (by omega)
    rw [tot, tot]; omega
theorem tot_zero {f : Nat → Nat} {t : Nat} : ∀ n, t < n → tot f n = tot (fun i => if i = t then 0 else f i) n + f t := by
  intro n
  induction n with
  | zero => intro h; omega
  | succ n ih =>
    intro ht
    rw [tot, tot]
    by_cases e : t = n
    · subst e
      rw [if_pos rfl, tot_ext t (g := fun i => if i = t then 0 else f i) (fun i hi => by rw [if_neg (by omega)])]
      omega
    · rw [ih (by omega), if_neg (by omega)]
      omega
theorem tot_add {f : Nat → Nat} {t x : Nat} : ∀ n, t < n → tot (fun i => if i = t then f i + x else f i) n = tot f n + x := by
  intro n
  induction n with
  | zero => intro h; omega
  | succ n ih =>
    intro ht
    rw [tot, tot]
    by_cases e : t = n
    · subst e
      rw [if_pos rfl, tot_ext t (g := f) (fun i hi => by rw [if_neg (by omega)])]
      omega
    · rw [ih (by omega), if_neg (by omega)]
      omega
theorem tot_inj {m : Nat} : ∀ (c : Nat) (f g : Nat → Nat), (∀ k, k < c → g k < m) → (∀ i j, i < j → j < c → g i ≠ g j) → tot (fun k => f (g k)) c ≤ tot f m := by
  intro c
  induction c with
  | zero => intro f g _ _; exact Nat.zero_le _
  | succ c ih =>
    intro f g h1 h2
    have a := ih (fun i => if i = g c then 0 else f i) g (fun k hk => h1 k (by omega)) (fun i j hij hj => h2 i j hij (by omega))
    rw [tot_zero m (h1 c (by omega)), tot]
    rw [tot_ext c (g := fun k => f (g k)) (fun k hk => by
      rw [if_neg (h2 k c hk (by omega))])] at a
    omega
theorem mt_row {C : Nat → Nat} (h : 1 ≤ csum C) (p : Nat) (hp : p < 6) : mt C p 0 + mt C p 1 + mt C p 2 + mt C p 3 + mt C p 4 + mt C p 5 = C p * (csum C - 1) := by
  unfold csum at h ⊢
  rcases Nat.eq_zero_or_pos (C p) with h0 | h0
  · have z : ∀ q, mt C p q = 0 := by
      intro q
      unfold mt
      split
      · rw [h0, Nat.zero_mul]
      · rw [h0, Nat.zero_mul]
    rw [z, z, z, z, z, z, h0, Nat.zero_mul]
  · unfold mt
    rcases (show p = 0 ∨ p = 1 ∨ p = 2 ∨ p = 3 ∨ p = 4 ∨ p = 5 by omega) with rfl | rfl | rfl | rfl | rfl | rfl
    · have e : C 0 + C 1 + C 2 + C 3 + C 4 + C 5 - 1 = (C 0 - 1) + C 1 + C 2 + C 3 + C 4 + C 5 := by omega
      rw [e]; simp only [Nat.mul_add]; simp
    · have e : C 0 + C 1 + C 2 + C 3 + C 4 + C 5 - 1 = C 0 + (C 1 - 1) + C 2 + C 3 + C 4 + C 5 := by omega
      rw [e]; simp only [Nat.mul_add]; simp
    · have e : C 0 + C 1 + C 2 + C 3 + C 4 + C 5 - 1 = C 0 + C 1 + (C 2 - 1) + C 3 + C 4 + C 5 := by omega
      rw [e]; simp only [Nat.mul_add]; simp
    · have e : C 0 + C 1 + C 2 + C 3 + C 4 + C 5 - 1 = C 0 + C 1 + C 2 + (C 3 - 1) + C 4 + C 5 := by omega
      rw [e]; simp only [Nat.mul_add]; simp
    · have e : C 0 + C 1 + C 2 + C 3 + C 4 + C 5 - 1 = C 0 + C 1 + C 2 + C 3 + (C 4 - 1) + C 5 := by omega
      rw [e]; simp only [Nat.mul_add]; simp
    · have e : C 0 + C 1 + C 2 + C 3 + C 4 + C 5 - 1 = C 0 + C 1 + C 2 + C 3 + C 4 + (C 5 - 1) := by omega
      rw [e]; simp only [Nat.mul_add]; simp
theorem mt_all {C : Nat → Nat} (h : 1 ≤ csum C) : tot (fun t => mt C (t / 6) (t % 6)) 36 = csum C * (csum C - 1) := by
  have r0 := mt_row h 0 (by omega)
  have r1 := mt_row h 1 (by omega)
  have r2 := mt_row h 2 (by omega)
  have r3 := mt_row h 3 (by omega)
  have r4 := mt_row h 4 (by omega)
  have r5 := mt_row h 5 (by omega)
  have e : csum C * (csum C - 1) = C 0 * (csum C - 1) + C 1 * (csum C - 1) + C 2 * (csum C - 1) + C 3 * (csum C - 1) + C 4 * (csum C - 1) + C 5 * (csum C - 1) := by
    rw [← Nat.add_mul, ← Nat.add_mul, ← Nat.add_mul, ← Nat.add_mul, ← Nat.add_mul]; rfl
  rw [e, ← r0, ← r1, ← r2, ← r3, ← r4, ← r5]
  show 0 + mt C 0 0 + mt C 0 1 + mt C 0 2 + mt C 0 3 + mt C 0 4 + mt C 0 5 + mt C 1 0 + mt C 1 1 + mt C 1 2 + mt C 1 3 + mt C 1 4 + mt C 1 5 + mt C 2 0 + mt C 2 1 + mt C 2 2 + mt C 2 3 + mt C 2 4 + mt C 2 5 + mt C 3 0 + mt C 3 1 + mt C 3 2 + mt C 3 3 + mt C 3 4 + mt C 3 5 + mt C 4 0 + mt C 4 1 + mt C 4 2 + mt C 4 3 + mt C 4 4 + mt C 4 5 + mt C 5 0 + mt C 5 1 + mt C 5 2 + mt C 5 3 + mt C 5 4 + mt C 5 5 = _
  omega
def wy (L : Nat → Nat → Option Nat) (C P Q : Nat → Nat) (i k : Nat) : Nat := match L i k with
  | none => 0
  | some _ => mt C (P k) (Q k)
theorem wy_le {c n : Nat} {L : Nat → Nat → Option Nat} {C P Q X Y : Nat → Nat} {twos outs pOf qOf xOf yOf : Nat → Int32} (hB : RBd c P Q X Y twos outs pOf qOf xOf yOf) (hC : csum C = n) (hn : 1 ≤ n) (i k : Nat) (hk : k ≤ c) : tot (wy L C P Q i) k ≤ n * (n - 1) := by
  have h1 : tot (wy L C P Q i) k ≤ tot (fun k => (fun t => mt C (t / 6) (t % 6)) (6 * P k + Q k)) k := by
    refine tot_sub k (fun j hj => ?_)
    have r := hB.2.1 j (by omega)
    dsimp only
    rw [show (6 * P j + Q j) / 6 = P j by omega, show (6 * P j + Q j) % 6 = Q j by omega]
    unfold wy
    split
    · exact Nat.zero_le _
    · exact Nat.le_refl _
  have h2 := tot_inj (m := 36) k (fun t => mt C (t / 6) (t % 6)) (fun k => 6 * P k + Q k) (fun j hj => by have r := hB.2.1 j (by omega); omega) (fun a b hab hb e => by
    have := hB.2.2.2.2.1 a b (by omega) (by omega) e
    omega)
  rw [mt_all (by omega), hC] at h2
  exact Nat.le_trans h1 h2
