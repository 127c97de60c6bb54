/-! ===== numbers: Int32 through nI ===== -/
theorem zle {a b : Nat} (ha : a < 2147483648) (hb : b < 2147483648) : (nI a ≤ nI b) = (a ≤ b) := propext (nI_leI ha hb)
theorem zlt {a b : Nat} (ha : a < 2147483648) (hb : b < 2147483648) : (nI a < nI b) = (a < b) := propext (nI_ltI ha hb)
theorem zeq {a b : Nat} (ha : a < 2147483648) (hb : b < 2147483648) : (nI a = nI b) = (a = b) := propext (nI_eq ha hb)
theorem zcl {a : Nat} (ha : a < 2147483648) : (nI a).toNatClampNeg = a := nI_clamp ha
theorem zinb {k n : Nat} (h : k < n) (hn : n < 2147483648) : inb (nI k) n = true := inb_of (vp_in_nI h hn)
theorem zl (n : Nat) : (OfNat.ofNat n : Int32) = nI n := rfl
theorem zadd (a b : Nat) : nI a + nI b = nI (a + b) := nI_add a b
theorem zmul (a b : Nat) : nI a * nI b = nI (a * b) := pk_mul a b
theorem zsub {a b : Nat} (h : b ≤ a) : nI a - nI b = nI (a - b) := pk_sub h
theorem zdiv {a d : Nat} (ha : a < 2147483648) (h0 : 0 < d) (hd : d < 2147483648) : nI a / nI d = nI (a / d) := pk_div ha h0 hd
theorem zrem {a d : Nat} (ha : a < 2147483648) (h0 : 0 < d) (hd : d < 2147483648) : nI a - nI a / nI d * nI d = nI (a % d) := pk_rem ha h0 hd
theorem zneg {b : Nat} (hb : b < 2147483648) : (-nI b).toInt = -(b : Int) := sb_negT hb
theorem zeqn {a b : Nat} (ha : a < 2147483648) (hb : b < 2147483648) (h0 : 0 < b) : (nI a = -nI b) = False := by
  refine propext ⟨fun h => ?_, False.elim⟩
  have h1 := congrArg Int32.toInt h
  rw [nI_toInt ha, zneg hb] at h1
  omega
theorem zneq {a b : Nat} (ha : a < 2147483648) (hb : b < 2147483648) (h0 : 0 < b) : (-nI b = nI a) = False := by
  refine propext ⟨fun h => ?_, False.elim⟩
  have h1 := congrArg Int32.toInt h
  rw [nI_toInt ha, zneg hb] at h1
  omega
theorem znlt {a b : Nat} (ha : a < 2147483648) (hb : b < 2147483648) (h0 : 0 < b) : (-nI b < nI a) = True := by
  refine propext ⟨fun _ => trivial, fun _ => ?_⟩
  rw [Int32.lt_iff_toInt_lt, nI_toInt ha, zneg hb]
  omega
theorem zltn {a b : Nat} (ha : a < 2147483648) (hb : b < 2147483648) : (nI a < -nI b) = False := by
  refine propext ⟨fun h => ?_, False.elim⟩
  rw [Int32.lt_iff_toInt_lt, nI_toInt ha, zneg hb] at h
  omega
theorem znz {a : Nat} (ha : a < 2147483648) (h0 : 0 < a) : nz (nI a) = true := decide_eq_true (nI_ne0 h0 ha)
/-- an Int32 is below 0, or a small natural number -/
theorem zcase (x : Int32) : x < 0 ∨ ∃ k : Nat, k < 2147483648 ∧ x = nI k := by
  by_cases h : x < 0
  · exact Or.inl h
  · obtain ⟨j, hj, e⟩ := nI_of h
    exact Or.inr ⟨j, hj, e⟩
/-! ===== loops ===== -/
theorem loopN_l {σ ε : Type} {b : σ → Option (σ ⊕ ε)} {x y : σ} (n : Nat) (h : b x = some (.inl y)) : loopN b (n + 1) x = loopN b n y := by
  show (match b x with | none => none | some (.inl y) => loopN b n y | some (.inr z) => some z) = _
  rw [h]
theorem loopN_r {σ ε : Type} {b : σ → Option (σ ⊕ ε)} {x : σ} {z : ε} (n : Nat) (h : b x = some (.inr z)) : loopN b (n + 1) x = some z := by
  show (match b x with | none => none | some (.inl y) => loopN b n y | some (.inr z) => some z) = _
  rw [h]
/-- a counting loop: at turn i the state holds I i; it ends at m, or earlier -/
theorem loop_idx {σ ε : Type} {b : σ → Option (σ ⊕ ε)} (I : Nat → σ → Prop) (E : ε → Prop) (m : Nat)
    (hs : ∀ i x, i < m → I i x → (∃ y, b x = some (.inl y) ∧ I (i + 1) y) ∨ (∃ e, b x = some (.inr e) ∧ E e))
    (he : ∀ x, I m x → ∃ e, b x = some (.inr e) ∧ E e) : ∀ (n i : Nat) (x : σ), i ≤ m → m - i < n → I i x → ∃ e, loopN b n x = some e ∧ E e := by
  intro n
  induction n with
  | zero => intro i x _ h; omega
  | succ n ih =>
    intro i x hi hn hI
    rcases Nat.lt_or_ge i m with q | q
    · rcases hs i x q hI with ⟨y, h1, h2⟩ | ⟨e, h1, h2⟩
      · obtain ⟨e, h3, h4⟩ := ih (i + 1) y (by omega) (by omega) h2
        exact ⟨e, by rw [loopN_l n h1]; exact h3, h4⟩
      · exact ⟨e, loopN_r n h1, h2⟩
    · have e1 : i = m := by omega
      subst e1
      obtain ⟨e, h1, h2⟩ := he x hI
      exact ⟨e, loopN_r n h1, h2⟩
/-- with a measure -/
theorem loop_mu {σ ε : Type} {b : σ → Option (σ ⊕ ε)} (I : σ → Prop) (μ : σ → Nat) (E : ε → Prop)
    (hs : ∀ x, I x → (∃ y, b x = some (.inl y) ∧ I y ∧ μ y < μ x) ∨ (∃ e, b x = some (.inr e) ∧ E e)) : ∀ (n : Nat) (x : σ), I x → μ x < n → ∃ e, loopN b n x = some e ∧ E e := by
  intro n
  induction n with
  | zero => intro x _ h; omega
  | succ n ih =>
    intro x hI hn
    rcases hs x hI with ⟨y, h1, h2, h3⟩ | ⟨e, h1, h2⟩
    · obtain ⟨e, h4, h5⟩ := ih y h2 (by omega)
      exact ⟨e, by rw [loopN_l n h1]; exact h4, h5⟩
    · exact ⟨e, loopN_r n h1, h2⟩
/-- the state at each turn is known -/
theorem loop_cnt {σ ε : Type} {b : σ → Option (σ ⊕ ε)} (S : Nat → σ) (e : ε) (m : Nat) (hs : ∀ i, i < m → b (S i) = some (.inl (S (i + 1)))) (he : b (S m) = some (.inr e)) : ∀ (n i : Nat), i ≤ m → m - i < n → loopN b n (S i) = some e := by
  intro n
  induction n with
  | zero => intro i _ h; omega
  | succ n ih =>
    intro i hi hn
    rcases Nat.lt_or_ge i m with q | q
    · rw [loopN_l n (hs i q)]
      exact ih (i + 1) (by omega) (by omega)
    · have e1 : i = m := by omega
      subst e1
      exact loopN_r n he
theorem upd_eq (f : Nat → Int32) (k : Nat) (x : Int32) (j : Nat) : upd f k x j = if j = k then x else f j := rfl
theorem updL_eq (f : Nat → Int64) (k : Nat) (x : Int64) (j : Nat) : vp_updL f k x j = if j = k then x else f j := rfl
/-! ===== fill ===== -/
theorem q_fill {N n : Nat} (hn : n < 2147483648) (hN : n < N) (v : Int32) (f : Nat → Int32) : ∃ g : Nat → Int32, f_J7_fill_53178 N n v f = some g ∧ (∀ t, t < n → g t = v) := by
  obtain ⟨g, h1, h2⟩ := loop_idx (b := fun (w9 : Int32 × (Nat → Int32)) => f_J7_fill_53178_b5 N n v (nI n) w9.1 w9.2) (fun i x => x.1 = nI i ∧ ∀ t, t < i → x.2 t = v) (fun g => ∀ t, t < n → g t = v) n
    (fun i x hi hI => by
      obtain ⟨x1, x2⟩ := x
      obtain ⟨rfl, h2⟩ := hI
      refine Or.inl ⟨(nI (i + 1), upd x2 i v), ?_, rfl, fun t ht => ?_⟩
      · simp (disch := omega) only [f_J7_fill_53178_b5, gd, nm, zle, zinb, zcl, nI_1, Nat.not_le.mpr hi, if_false, if_true]
      · show upd x2 i v t = v
        rw [upd_eq]
        split
        · rfl
        · exact h2 t (by omega))
    (fun x hI => by
      obtain ⟨x1, x2⟩ := x
      obtain ⟨rfl, h2⟩ := hI
      refine ⟨x2, ?_, h2⟩
      simp only [f_J7_fill_53178_b5, Int32.le_refl, if_true]) N 0 (0, f) (Nat.zero_le _) (by omega) ⟨nI_0.symm, fun t ht => absurd ht (Nat.not_lt_zero t)⟩
  refine ⟨g, ?_, h2⟩
  show bd1 _ _ = _
  rw [h1]
  rfl
