/-! ===== pure functions that a method's code is turned into: guards, names, binds, loops ===== -/
def gd {β : Type} (b : Bool) (k : Option β) : Option β := if b = true then k else none
theorem gd_el {β : Type} {b : Bool} {k : Option β} {o : β} (h : gd b k = some o) : b = true ∧ k = some o := by
  cases b with
  | true => exact ⟨rfl, h⟩
  | false => cases h
theorem gd_t {β : Type} {b : Bool} {k : Option β} (h : b = true) : gd b k = k := by rw [h]; rfl
def nm {α β : Type} (e : α) (k : α → Option β) : Option β := k e
theorem nm_el {α β : Type} {e : α} {k : α → Option β} {o : β} (h : nm e k = some o) : ∃ a : α, a = e ∧ k a = some o := ⟨e, rfl, h⟩
theorem nm_t {α β : Type} (e : α) (k : α → Option β) : nm e k = k e := rfl
def inb (i : Int32) (n : Nat) : Bool := decide (¬ (i < 0 ∨ n ≤ i.toNatClampNeg))
theorem inb_in {i : Int32} {n : Nat} (h : inb i n = true) : vp_in i n := (of_decide_eq_true h : ¬ (i < 0 ∨ n ≤ i.toNatClampNeg))
theorem inb_of {i : Int32} {n : Nat} (h : vp_in i n) : inb i n = true := decide_eq_true h
def nz (x : Int32) : Bool := decide (¬ x = 0)
theorem nz_ne {x : Int32} (h : nz x = true) : ¬ x = 0 := of_decide_eq_true h
def nzl (x : Int64) : Bool := decide (¬ x = 0)
theorem nzl_ne {x : Int64} (h : nzl x = true) : ¬ x = 0 := of_decide_eq_true h
def bz (x : Int32) : Bool := decide (x = 0 ∨ x = 1)
theorem bz_nar {x : Int32} (h : bz x = true) : narrow .boolean (.int x) = .int x := by
  rcases (of_decide_eq_true h : x = 0 ∨ x = 1) with rfl | rfl <;> rfl
theorem it_t {β : Type} {c : Prop} [Decidable c] {a b : Option β} {o : β} (h : (if c then a else b) = some o) (hc : c) : a = some o := by rwa [if_pos hc] at h
theorem it_f {β : Type} {c : Prop} [Decidable c] {a b : Option β} {o : β} (h : (if c then a else b) = some o) (hc : ¬ c) : b = some o := by rwa [if_neg hc] at h
theorem it_n {β : Type} {c : Prop} [Decidable c] {a b : Option β} {o : β} (h : (if ¬ c then a else b) = some o) (hc : c) : b = some o := by rwa [if_neg (fun q => q hc)] at h

def bd0 {β : Type} (o : Option (Unit)) (k : Option β) : Option β := match o with
  | none => none
  | some () => k 
theorem bd0_el {β : Type} {o : Option (Unit)} {k : Option β} {z : β} (h : bd0 o k = some z) : o = some () ∧ k  = some z := by
  cases o with
  | none => cases h
  | some q => exact ⟨rfl, h⟩
def bs0 {ρ β : Type} (o : Option (ρ ⊕ (Unit))) (r : ρ → Option β) (k : Option β) : Option β := match o with
  | none => none
  | some (.inl x) => r x
  | some (.inr ()) => k 
theorem bs0_el {ρ β : Type} {o : Option (ρ ⊕ (Unit))} {r : ρ → Option β} {k : Option β} {z : β} (h : bs0 o r k = some z) : (∃ x : ρ, o = some (.inl x) ∧ r x = some z) ∨ (o = some (.inr ()) ∧ k  = some z) := by
  rcases o with _ | (x | q)
  · cases h
  · exact Or.inl ⟨x, rfl, h⟩
  · exact Or.inr ⟨rfl, h⟩
def bd1 {A1 : Type} {β : Type} (o : Option (A1)) (k : A1 → Option β) : Option β := match o with
  | none => none
  | some a1 => k a1
theorem bd1_el {A1 : Type} {β : Type} {o : Option (A1)} {k : A1 → Option β} {z : β} (h : bd1 o k = some z) : ∃ (a1 : A1), o = some a1 ∧ k a1 = some z := by
  cases o with
  | none => cases h
  | some q => exact ⟨q, rfl, h⟩
def bs1 {A1 : Type} {ρ β : Type} (o : Option (ρ ⊕ (A1))) (r : ρ → Option β) (k : A1 → Option β) : Option β := match o with
  | none => none
  | some (.inl x) => r x
  | some (.inr a1) => k a1
theorem bs1_el {A1 : Type} {ρ β : Type} {o : Option (ρ ⊕ (A1))} {r : ρ → Option β} {k : A1 → Option β} {z : β} (h : bs1 o r k = some z) : (∃ x : ρ, o = some (.inl x) ∧ r x = some z) ∨ (∃ (a1 : A1), o = some (.inr a1) ∧ k a1 = some z) := by
  rcases o with _ | (x | q)
  · cases h
  · exact Or.inl ⟨x, rfl, h⟩
  · exact Or.inr ⟨q, rfl, h⟩
def bd2 {A1 : Type} {A2 : Type} {β : Type} (o : Option (A1 × A2)) (k : A1 → A2 → Option β) : Option β := match o with
  | none => none
  | some (a1, a2) => k a1 a2
theorem bd2_el {A1 : Type} {A2 : Type} {β : Type} {o : Option (A1 × A2)} {k : A1 → A2 → Option β} {z : β} (h : bd2 o k = some z) : ∃ (a1 : A1) (a2 : A2), o = some (a1, a2) ∧ k a1 a2 = some z := by
  cases o with
  | none => cases h
  | some q => exact ⟨q.1, q.2, rfl, h⟩
def bs2 {A1 : Type} {A2 : Type} {ρ β : Type} (o : Option (ρ ⊕ (A1 × A2))) (r : ρ → Option β) (k : A1 → A2 → Option β) : Option β := match o with
  | none => none
  | some (.inl x) => r x
  | some (.inr (a1, a2)) => k a1 a2
theorem bs2_el {A1 : Type} {A2 : Type} {ρ β : Type} {o : Option (ρ ⊕ (A1 × A2))} {r : ρ → Option β} {k : A1 → A2 → Option β} {z : β} (h : bs2 o r k = some z) : (∃ x : ρ, o = some (.inl x) ∧ r x = some z) ∨ (∃ (a1 : A1) (a2 : A2), o = some (.inr (a1, a2)) ∧ k a1 a2 = some z) := by
  rcases o with _ | (x | q)
  · cases h
  · exact Or.inl ⟨x, rfl, h⟩
  · exact Or.inr ⟨q.1, q.2, rfl, h⟩
def bd3 {A1 : Type} {A2 : Type} {A3 : Type} {β : Type} (o : Option (A1 × A2 × A3)) (k : A1 → A2 → A3 → Option β) : Option β := match o with
  | none => none
  | some (a1, a2, a3) => k a1 a2 a3
theorem bd3_el {A1 : Type} {A2 : Type} {A3 : Type} {β : Type} {o : Option (A1 × A2 × A3)} {k : A1 → A2 → A3 → Option β} {z : β} (h : bd3 o k = some z) : ∃ (a1 : A1) (a2 : A2) (a3 : A3), o = some (a1, a2, a3) ∧ k a1 a2 a3 = some z := by
  cases o with
  | none => cases h
  | some q => exact ⟨q.1, q.2.1, q.2.2, rfl, h⟩
def bs3 {A1 : Type} {A2 : Type} {A3 : Type} {ρ β : Type} (o : Option (ρ ⊕ (A1 × A2 × A3))) (r : ρ → Option β) (k : A1 → A2 → A3 → Option β) : Option β := match o with
  | none => none
  | some (.inl x) => r x
  | some (.inr (a1, a2, a3)) => k a1 a2 a3
theorem bs3_el {A1 : Type} {A2 : Type} {A3 : Type} {ρ β : Type} {o : Option (ρ ⊕ (A1 × A2 × A3))} {r : ρ → Option β} {k : A1 → A2 → A3 → Option β} {z : β} (h : bs3 o r k = some z) : (∃ x : ρ, o = some (.inl x) ∧ r x = some z) ∨ (∃ (a1 : A1) (a2 : A2) (a3 : A3), o = some (.inr (a1, a2, a3)) ∧ k a1 a2 a3 = some z) := by
  rcases o with _ | (x | q)
  · cases h
  · exact Or.inl ⟨x, rfl, h⟩
  · exact Or.inr ⟨q.1, q.2.1, q.2.2, rfl, h⟩
def bd4 {A1 : Type} {A2 : Type} {A3 : Type} {A4 : Type} {β : Type} (o : Option (A1 × A2 × A3 × A4)) (k : A1 → A2 → A3 → A4 → Option β) : Option β := match o with
  | none => none
  | some (a1, a2, a3, a4) => k a1 a2 a3 a4
theorem bd4_el {A1 : Type} {A2 : Type} {A3 : Type} {A4 : Type} {β : Type} {o : Option (A1 × A2 × A3 × A4)} {k : A1 → A2 → A3 → A4 → Option β} {z : β} (h : bd4 o k = some z) : ∃ (a1 : A1) (a2 : A2) (a3 : A3) (a4 : A4), o = some (a1, a2, a3, a4) ∧ k a1 a2 a3 a4 = some z := by
  cases o with
  | none => cases h
  | some q => exact ⟨q.1, q.2.1, q.2.2.1, q.2.2.2, rfl, h⟩
def bs4 {A1 : Type} {A2 : Type} {A3 : Type} {A4 : Type} {ρ β : Type} (o : Option (ρ ⊕ (A1 × A2 × A3 × A4))) (r : ρ → Option β) (k : A1 → A2 → A3 → A4 → Option β) : Option β := match o with
  | none => none
  | some (.inl x) => r x
  | some (.inr (a1, a2, a3, a4)) => k a1 a2 a3 a4
theorem bs4_el {A1 : Type} {A2 : Type} {A3 : Type} {A4 : Type} {ρ β : Type} {o : Option (ρ ⊕ (A1 × A2 × A3 × A4))} {r : ρ → Option β} {k : A1 → A2 → A3 → A4 → Option β} {z : β} (h : bs4 o r k = some z) : (∃ x : ρ, o = some (.inl x) ∧ r x = some z) ∨ (∃ (a1 : A1) (a2 : A2) (a3 : A3) (a4 : A4), o = some (.inr (a1, a2, a3, a4)) ∧ k a1 a2 a3 a4 = some z) := by
  rcases o with _ | (x | q)
  · cases h
  · exact Or.inl ⟨x, rfl, h⟩
  · exact Or.inr ⟨q.1, q.2.1, q.2.2.1, q.2.2.2, rfl, h⟩
def bd5 {A1 : Type} {A2 : Type} {A3 : Type} {A4 : Type} {A5 : Type} {β : Type} (o : Option (A1 × A2 × A3 × A4 × A5)) (k : A1 → A2 → A3 → A4 → A5 → Option β) : Option β := match o with
  | none => none
  | some (a1, a2, a3, a4, a5) => k a1 a2 a3 a4 a5
theorem bd5_el {A1 : Type} {A2 : Type} {A3 : Type} {A4 : Type} {A5 : Type} {β : Type} {o : Option (A1 × A2 × A3 × A4 × A5)} {k : A1 → A2 → A3 → A4 → A5 → Option β} {z : β} (h : bd5 o k = some z) : ∃ (a1 : A1) (a2 : A2) (a3 : A3) (a4 : A4) (a5 : A5), o = some (a1, a2, a3, a4, a5) ∧ k a1 a2 a3 a4 a5 = some z := by
  cases o with
  | none => cases h
  | some q => exact ⟨q.1, q.2.1, q.2.2.1, q.2.2.2.1, q.2.2.2.2, rfl, h⟩
def bs5 {A1 : Type} {A2 : Type} {A3 : Type} {A4 : Type} {A5 : Type} {ρ β : Type} (o : Option (ρ ⊕ (A1 × A2 × A3 × A4 × A5))) (r : ρ → Option β) (k : A1 → A2 → A3 → A4 → A5 → Option β) : Option β := match o with
  | none => none
  | some (.inl x) => r x
  | some (.inr (a1, a2, a3, a4, a5)) => k a1 a2 a3 a4 a5
theorem bs5_el {A1 : Type} {A2 : Type} {A3 : Type} {A4 : Type} {A5 : Type} {ρ β : Type} {o : Option (ρ ⊕ (A1 × A2 × A3 × A4 × A5))} {r : ρ → Option β} {k : A1 → A2 → A3 → A4 → A5 → Option β} {z : β} (h : bs5 o r k = some z) : (∃ x : ρ, o = some (.inl x) ∧ r x = some z) ∨ (∃ (a1 : A1) (a2 : A2) (a3 : A3) (a4 : A4) (a5 : A5), o = some (.inr (a1, a2, a3, a4, a5)) ∧ k a1 a2 a3 a4 a5 = some z) := by
  rcases o with _ | (x | q)
  · cases h
  · exact Or.inl ⟨x, rfl, h⟩
  · exact Or.inr ⟨q.1, q.2.1, q.2.2.1, q.2.2.2.1, q.2.2.2.2, rfl, h⟩
def bd6 {A1 : Type} {A2 : Type} {A3 : Type} {A4 : Type} {A5 : Type} {A6 : Type} {β : Type} (o : Option (A1 × A2 × A3 × A4 × A5 × A6)) (k : A1 → A2 → A3 → A4 → A5 → A6 → Option β) : Option β := match o with
  | none => none
  | some (a1, a2, a3, a4, a5, a6) => k a1 a2 a3 a4 a5 a6
theorem bd6_el {A1 : Type} {A2 : Type} {A3 : Type} {A4 : Type} {A5 : Type} {A6 : Type} {β : Type} {o : Option (A1 × A2 × A3 × A4 × A5 × A6)} {k : A1 → A2 → A3 → A4 → A5 → A6 → Option β} {z : β} (h : bd6 o k = some z) : ∃ (a1 : A1) (a2 : A2) (a3 : A3) (a4 : A4) (a5 : A5) (a6 : A6), o = some (a1, a2, a3, a4, a5, a6) ∧ k a1 a2 a3 a4 a5 a6 = some z := by
  cases o with
  | none => cases h
  | some q => exact ⟨q.1, q.2.1, q.2.2.1, q.2.2.2.1, q.2.2.2.2.1, q.2.2.2.2.2, rfl, h⟩
def bs6 {A1 : Type} {A2 : Type} {A3 : Type} {A4 : Type} {A5 : Type} {A6 : Type} {ρ β : Type} (o : Option (ρ ⊕ (A1 × A2 × A3 × A4 × A5 × A6))) (r : ρ → Option β) (k : A1 → A2 → A3 → A4 → A5 → A6 → Option β) : Option β := match o with
  | none => none
  | some (.inl x) => r x
  | some (.inr (a1, a2, a3, a4, a5, a6)) => k a1 a2 a3 a4 a5 a6
theorem bs6_el {A1 : Type} {A2 : Type} {A3 : Type} {A4 : Type} {A5 : Type} {A6 : Type} {ρ β : Type} {o : Option (ρ ⊕ (A1 × A2 × A3 × A4 × A5 × A6))} {r : ρ → Option β} {k : A1 → A2 → A3 → A4 → A5 → A6 → Option β} {z : β} (h : bs6 o r k = some z) : (∃ x : ρ, o = some (.inl x) ∧ r x = some z) ∨ (∃ (a1 : A1) (a2 : A2) (a3 : A3) (a4 : A4) (a5 : A5) (a6 : A6), o = some (.inr (a1, a2, a3, a4, a5, a6)) ∧ k a1 a2 a3 a4 a5 a6 = some z) := by
  rcases o with _ | (x | q)
  · cases h
  · exact Or.inl ⟨x, rfl, h⟩
  · exact Or.inr ⟨q.1, q.2.1, q.2.2.1, q.2.2.2.1, q.2.2.2.2.1, q.2.2.2.2.2, rfl, h⟩
def bd7 {A1 : Type} {A2 : Type} {A3 : Type} {A4 : Type} {A5 : Type} {A6 : Type} {A7 : Type} {β : Type} (o : Option (A1 × A2 × A3 × A4 × A5 × A6 × A7)) (k : A1 → A2 → A3 → A4 → A5 → A6 → A7 → Option β) : Option β := match o with
  | none => none
  | some (a1, a2, a3, a4, a5, a6, a7) => k a1 a2 a3 a4 a5 a6 a7
theorem bd7_el {A1 : Type} {A2 : Type} {A3 : Type} {A4 : Type} {A5 : Type} {A6 : Type} {A7 : Type} {β : Type} {o : Option (A1 × A2 × A3 × A4 × A5 × A6 × A7)} {k : A1 → A2 → A3 → A4 → A5 → A6 → A7 → Option β} {z : β} (h : bd7 o k = some z) : ∃ (a1 : A1) (a2 : A2) (a3 : A3) (a4 : A4) (a5 : A5) (a6 : A6) (a7 : A7), o = some (a1, a2, a3, a4, a5, a6, a7) ∧ k a1 a2 a3 a4 a5 a6 a7 = some z := by
  cases o with
  | none => cases h
  | some q => exact ⟨q.1, q.2.1, q.2.2.1, q.2.2.2.1, q.2.2.2.2.1, q.2.2.2.2.2.1, q.2.2.2.2.2.2, rfl, h⟩
def bs7 {A1 : Type} {A2 : Type} {A3 : Type} {A4 : Type} {A5 : Type} {A6 : Type} {A7 : Type} {ρ β : Type} (o : Option (ρ ⊕ (A1 × A2 × A3 × A4 × A5 × A6 × A7))) (r : ρ → Option β) (k : A1 → A2 → A3 → A4 → A5 → A6 → A7 → Option β) : Option β := match o with
  | none => none
  | some (.inl x) => r x
  | some (.inr (a1, a2, a3, a4, a5, a6, a7)) => k a1 a2 a3 a4 a5 a6 a7
theorem bs7_el {A1 : Type} {A2 : Type} {A3 : Type} {A4 : Type} {A5 : Type} {A6 : Type} {A7 : Type} {ρ β : Type} {o : Option (ρ ⊕ (A1 × A2 × A3 × A4 × A5 × A6 × A7))} {r : ρ → Option β} {k : A1 → A2 → A3 → A4 → A5 → A6 → A7 → Option β} {z : β} (h : bs7 o r k = some z) : (∃ x : ρ, o = some (.inl x) ∧ r x = some z) ∨ (∃ (a1 : A1) (a2 : A2) (a3 : A3) (a4 : A4) (a5 : A5) (a6 : A6) (a7 : A7), o = some (.inr (a1, a2, a3, a4, a5, a6, a7)) ∧ k a1 a2 a3 a4 a5 a6 a7 = some z) := by
  rcases o with _ | (x | q)
  · cases h
  · exact Or.inl ⟨x, rfl, h⟩
  · exact Or.inr ⟨q.1, q.2.1, q.2.2.1, q.2.2.2.1, q.2.2.2.2.1, q.2.2.2.2.2.1, q.2.2.2.2.2.2, rfl, h⟩
def bd8 {A1 : Type} {A2 : Type} {A3 : Type} {A4 : Type} {A5 : Type} {A6 : Type} {A7 : Type} {A8 : Type} {β : Type} (o : Option (A1 × A2 × A3 × A4 × A5 × A6 × A7 × A8)) (k : A1 → A2 → A3 → A4 → A5 → A6 → A7 → A8 → Option β) : Option β := match o with
  | none => none
  | some (a1, a2, a3, a4, a5, a6, a7, a8) => k a1 a2 a3 a4 a5 a6 a7 a8
theorem bd8_el {A1 : Type} {A2 : Type} {A3 : Type} {A4 : Type} {A5 : Type} {A6 : Type} {A7 : Type} {A8 : Type} {β : Type} {o : Option (A1 × A2 × A3 × A4 × A5 × A6 × A7 × A8)} {k : A1 → A2 → A3 → A4 → A5 → A6 → A7 → A8 → Option β} {z : β} (h : bd8 o k = some z) : ∃ (a1 : A1) (a2 : A2) (a3 : A3) (a4 : A4) (a5 : A5) (a6 : A6) (a7 : A7) (a8 : A8), o = some (a1, a2, a3, a4, a5, a6, a7, a8) ∧ k a1 a2 a3 a4 a5 a6 a7 a8 = some z := by
  cases o with
  | none => cases h
  | some q => exact ⟨q.1, q.2.1, q.2.2.1, q.2.2.2.1, q.2.2.2.2.1, q.2.2.2.2.2.1, q.2.2.2.2.2.2.1, q.2.2.2.2.2.2.2, rfl, h⟩
def bs8 {A1 : Type} {A2 : Type} {A3 : Type} {A4 : Type} {A5 : Type} {A6 : Type} {A7 : Type} {A8 : Type} {ρ β : Type} (o : Option (ρ ⊕ (A1 × A2 × A3 × A4 × A5 × A6 × A7 × A8))) (r : ρ → Option β) (k : A1 → A2 → A3 → A4 → A5 → A6 → A7 → A8 → Option β) : Option β := match o with
  | none => none
  | some (.inl x) => r x
  | some (.inr (a1, a2, a3, a4, a5, a6, a7, a8)) => k a1 a2 a3 a4 a5 a6 a7 a8
theorem bs8_el {A1 : Type} {A2 : Type} {A3 : Type} {A4 : Type} {A5 : Type} {A6 : Type} {A7 : Type} {A8 : Type} {ρ β : Type} {o : Option (ρ ⊕ (A1 × A2 × A3 × A4 × A5 × A6 × A7 × A8))} {r : ρ → Option β} {k : A1 → A2 → A3 → A4 → A5 → A6 → A7 → A8 → Option β} {z : β} (h : bs8 o r k = some z) : (∃ x : ρ, o = some (.inl x) ∧ r x = some z) ∨ (∃ (a1 : A1) (a2 : A2) (a3 : A3) (a4 : A4) (a5 : A5) (a6 : A6) (a7 : A7) (a8 : A8), o = some (.inr (a1, a2, a3, a4, a5, a6, a7, a8)) ∧ k a1 a2 a3 a4 a5 a6 a7 a8 = some z) := by
  rcases o with _ | (x | q)
  · cases h
  · exact Or.inl ⟨x, rfl, h⟩
  · exact Or.inr ⟨q.1, q.2.1, q.2.2.1, q.2.2.2.1, q.2.2.2.2.1, q.2.2.2.2.2.1, q.2.2.2.2.2.2.1, q.2.2.2.2.2.2.2, rfl, h⟩
def bd9 {A1 : Type} {A2 : Type} {A3 : Type} {A4 : Type} {A5 : Type} {A6 : Type} {A7 : Type} {A8 : Type} {A9 : Type} {β : Type} (o : Option (A1 × A2 × A3 × A4 × A5 × A6 × A7 × A8 × A9)) (k : A1 → A2 → A3 → A4 → A5 → A6 → A7 → A8 → A9 → Option β) : Option β := match o with
  | none => none
  | some (a1, a2, a3, a4, a5, a6, a7, a8, a9) => k a1 a2 a3 a4 a5 a6 a7 a8 a9
theorem bd9_el {A1 : Type} {A2 : Type} {A3 : Type} {A4 : Type} {A5 : Type} {A6 : Type} {A7 : Type} {A8 : Type} {A9 : Type} {β : Type} {o : Option (A1 × A2 × A3 × A4 × A5 × A6 × A7 × A8 × A9)} {k : A1 → A2 → A3 → A4 → A5 → A6 → A7 → A8 → A9 → Option β} {z : β} (h : bd9 o k = some z) : ∃ (a1 : A1) (a2 : A2) (a3 : A3) (a4 : A4) (a5 : A5) (a6 : A6) (a7 : A7) (a8 : A8) (a9 : A9), o = some (a1, a2, a3, a4, a5, a6, a7, a8, a9) ∧ k a1 a2 a3 a4 a5 a6 a7 a8 a9 = some z := by
  cases o with
  | none => cases h
  | some q => exact ⟨q.1, q.2.1, q.2.2.1, q.2.2.2.1, q.2.2.2.2.1, q.2.2.2.2.2.1, q.2.2.2.2.2.2.1, q.2.2.2.2.2.2.2.1, q.2.2.2.2.2.2.2.2, rfl, h⟩
def bs9 {A1 : Type} {A2 : Type} {A3 : Type} {A4 : Type} {A5 : Type} {A6 : Type} {A7 : Type} {A8 : Type} {A9 : Type} {ρ β : Type} (o : Option (ρ ⊕ (A1 × A2 × A3 × A4 × A5 × A6 × A7 × A8 × A9))) (r : ρ → Option β) (k : A1 → A2 → A3 → A4 → A5 → A6 → A7 → A8 → A9 → Option β) : Option β := match o with
  | none => none
  | some (.inl x) => r x
  | some (.inr (a1, a2, a3, a4, a5, a6, a7, a8, a9)) => k a1 a2 a3 a4 a5 a6 a7 a8 a9
theorem bs9_el {A1 : Type} {A2 : Type} {A3 : Type} {A4 : Type} {A5 : Type} {A6 : Type} {A7 : Type} {A8 : Type} {A9 : Type} {ρ β : Type} {o : Option (ρ ⊕ (A1 × A2 × A3 × A4 × A5 × A6 × A7 × A8 × A9))} {r : ρ → Option β} {k : A1 → A2 → A3 → A4 → A5 → A6 → A7 → A8 → A9 → Option β} {z : β} (h : bs9 o r k = some z) : (∃ x : ρ, o = some (.inl x) ∧ r x = some z) ∨ (∃ (a1 : A1) (a2 : A2) (a3 : A3) (a4 : A4) (a5 : A5) (a6 : A6) (a7 : A7) (a8 : A8) (a9 : A9), o = some (.inr (a1, a2, a3, a4, a5, a6, a7, a8, a9)) ∧ k a1 a2 a3 a4 a5 a6 a7 a8 a9 = some z) := by
  rcases o with _ | (x | q)
  · cases h
  · exact Or.inl ⟨x, rfl, h⟩
  · exact Or.inr ⟨q.1, q.2.1, q.2.2.1, q.2.2.2.1, q.2.2.2.2.1, q.2.2.2.2.2.1, q.2.2.2.2.2.2.1, q.2.2.2.2.2.2.2.1, q.2.2.2.2.2.2.2.2, rfl, h⟩
def bd10 {A1 : Type} {A2 : Type} {A3 : Type} {A4 : Type} {A5 : Type} {A6 : Type} {A7 : Type} {A8 : Type} {A9 : Type} {A10 : Type} {β : Type} (o : Option (A1 × A2 × A3 × A4 × A5 × A6 × A7 × A8 × A9 × A10)) (k : A1 → A2 → A3 → A4 → A5 → A6 → A7 → A8 → A9 → A10 → Option β) : Option β := match o with
  | none => none
  | some (a1, a2, a3, a4, a5, a6, a7, a8, a9, a10) => k a1 a2 a3 a4 a5 a6 a7 a8 a9 a10
theorem bd10_el {A1 : Type} {A2 : Type} {A3 : Type} {A4 : Type} {A5 : Type} {A6 : Type} {A7 : Type} {A8 : Type} {A9 : Type} {A10 : Type} {β : Type} {o : Option (A1 × A2 × A3 × A4 × A5 × A6 × A7 × A8 × A9 × A10)} {k : A1 → A2 → A3 → A4 → A5 → A6 → A7 → A8 → A9 → A10 → Option β} {z : β} (h : bd10 o k = some z) : ∃ (a1 : A1) (a2 : A2) (a3 : A3) (a4 : A4) (a5 : A5) (a6 : A6) (a7 : A7) (a8 : A8) (a9 : A9) (a10 : A10), o = some (a1, a2, a3, a4, a5, a6, a7, a8, a9, a10) ∧ k a1 a2 a3 a4 a5 a6 a7 a8 a9 a10 = some z := by
  cases o with
  | none => cases h
  | some q => exact ⟨q.1, q.2.1, q.2.2.1, q.2.2.2.1, q.2.2.2.2.1, q.2.2.2.2.2.1, q.2.2.2.2.2.2.1, q.2.2.2.2.2.2.2.1, q.2.2.2.2.2.2.2.2.1, q.2.2.2.2.2.2.2.2.2, rfl, h⟩
def bs10 {A1 : Type} {A2 : Type} {A3 : Type} {A4 : Type} {A5 : Type} {A6 : Type} {A7 : Type} {A8 : Type} {A9 : Type} {A10 : Type} {ρ β : Type} (o : Option (ρ ⊕ (A1 × A2 × A3 × A4 × A5 × A6 × A7 × A8 × A9 × A10))) (r : ρ → Option β) (k : A1 → A2 → A3 → A4 → A5 → A6 → A7 → A8 → A9 → A10 → Option β) : Option β := match o with
  | none => none
  | some (.inl x) => r x
  | some (.inr (a1, a2, a3, a4, a5, a6, a7, a8, a9, a10)) => k a1 a2 a3 a4 a5 a6 a7 a8 a9 a10
theorem bs10_el {A1 : Type} {A2 : Type} {A3 : Type} {A4 : Type} {A5 : Type} {A6 : Type} {A7 : Type} {A8 : Type} {A9 : Type} {A10 : Type} {ρ β : Type} {o : Option (ρ ⊕ (A1 × A2 × A3 × A4 × A5 × A6 × A7 × A8 × A9 × A10))} {r : ρ → Option β} {k : A1 → A2 → A3 → A4 → A5 → A6 → A7 → A8 → A9 → A10 → Option β} {z : β} (h : bs10 o r k = some z) : (∃ x : ρ, o = some (.inl x) ∧ r x = some z) ∨ (∃ (a1 : A1) (a2 : A2) (a3 : A3) (a4 : A4) (a5 : A5) (a6 : A6) (a7 : A7) (a8 : A8) (a9 : A9) (a10 : A10), o = some (.inr (a1, a2, a3, a4, a5, a6, a7, a8, a9, a10)) ∧ k a1 a2 a3 a4 a5 a6 a7 a8 a9 a10 = some z) := by
  rcases o with _ | (x | q)
  · cases h
  · exact Or.inl ⟨x, rfl, h⟩
  · exact Or.inr ⟨q.1, q.2.1, q.2.2.1, q.2.2.2.1, q.2.2.2.2.1, q.2.2.2.2.2.1, q.2.2.2.2.2.2.1, q.2.2.2.2.2.2.2.1, q.2.2.2.2.2.2.2.2.1, q.2.2.2.2.2.2.2.2.2, rfl, h⟩
def bd11 {A1 : Type} {A2 : Type} {A3 : Type} {A4 : Type} {A5 : Type} {A6 : Type} {A7 : Type} {A8 : Type} {A9 : Type} {A10 : Type} {A11 : Type} {β : Type} (o : Option (A1 × A2 × A3 × A4 × A5 × A6 × A7 × A8 × A9 × A10 × A11)) (k : A1 → A2 → A3 → A4 → A5 → A6 → A7 → A8 → A9 → A10 → A11 → Option β) : Option β := match o with
  | none => none
  | some (a1, a2, a3, a4, a5, a6, a7, a8, a9, a10, a11) => k a1 a2 a3 a4 a5 a6 a7 a8 a9 a10 a11
theorem bd11_el {A1 : Type} {A2 : Type} {A3 : Type} {A4 : Type} {A5 : Type} {A6 : Type} {A7 : Type} {A8 : Type} {A9 : Type} {A10 : Type} {A11 : Type} {β : Type} {o : Option (A1 × A2 × A3 × A4 × A5 × A6 × A7 × A8 × A9 × A10 × A11)} {k : A1 → A2 → A3 → A4 → A5 → A6 → A7 → A8 → A9 → A10 → A11 → Option β} {z : β} (h : bd11 o k = some z) : ∃ (a1 : A1) (a2 : A2) (a3 : A3) (a4 : A4) (a5 : A5) (a6 : A6) (a7 : A7) (a8 : A8) (a9 : A9) (a10 : A10) (a11 : A11), o = some (a1, a2, a3, a4, a5, a6, a7, a8, a9, a10, a11) ∧ k a1 a2 a3 a4 a5 a6 a7 a8 a9 a10 a11 = some z := by
  cases o with
  | none => cases h
  | some q => exact ⟨q.1, q.2.1, q.2.2.1, q.2.2.2.1, q.2.2.2.2.1, q.2.2.2.2.2.1, q.2.2.2.2.2.2.1, q.2.2.2.2.2.2.2.1, q.2.2.2.2.2.2.2.2.1, q.2.2.2.2.2.2.2.2.2.1, q.2.2.2.2.2.2.2.2.2.2, rfl, h⟩
def bs11 {A1 : Type} {A2 : Type} {A3 : Type} {A4 : Type} {A5 : Type} {A6 : Type} {A7 : Type} {A8 : Type} {A9 : Type} {A10 : Type} {A11 : Type} {ρ β : Type} (o : Option (ρ ⊕ (A1 × A2 × A3 × A4 × A5 × A6 × A7 × A8 × A9 × A10 × A11))) (r : ρ → Option β) (k : A1 → A2 → A3 → A4 → A5 → A6 → A7 → A8 → A9 → A10 → A11 → Option β) : Option β := match o with
  | none => none
  | some (.inl x) => r x
  | some (.inr (a1, a2, a3, a4, a5, a6, a7, a8, a9, a10, a11)) => k a1 a2 a3 a4 a5 a6 a7 a8 a9 a10 a11
theorem bs11_el {A1 : Type} {A2 : Type} {A3 : Type} {A4 : Type} {A5 : Type} {A6 : Type} {A7 : Type} {A8 : Type} {A9 : Type} {A10 : Type} {A11 : Type} {ρ β : Type} {o : Option (ρ ⊕ (A1 × A2 × A3 × A4 × A5 × A6 × A7 × A8 × A9 × A10 × A11))} {r : ρ → Option β} {k : A1 → A2 → A3 → A4 → A5 → A6 → A7 → A8 → A9 → A10 → A11 → Option β} {z : β} (h : bs11 o r k = some z) : (∃ x : ρ, o = some (.inl x) ∧ r x = some z) ∨ (∃ (a1 : A1) (a2 : A2) (a3 : A3) (a4 : A4) (a5 : A5) (a6 : A6) (a7 : A7) (a8 : A8) (a9 : A9) (a10 : A10) (a11 : A11), o = some (.inr (a1, a2, a3, a4, a5, a6, a7, a8, a9, a10, a11)) ∧ k a1 a2 a3 a4 a5 a6 a7 a8 a9 a10 a11 = some z) := by
  rcases o with _ | (x | q)
  · cases h
  · exact Or.inl ⟨x, rfl, h⟩
  · exact Or.inr ⟨q.1, q.2.1, q.2.2.1, q.2.2.2.1, q.2.2.2.2.1, q.2.2.2.2.2.1, q.2.2.2.2.2.2.1, q.2.2.2.2.2.2.2.1, q.2.2.2.2.2.2.2.2.1, q.2.2.2.2.2.2.2.2.2.1, q.2.2.2.2.2.2.2.2.2.2, rfl, h⟩
def bd12 {A1 : Type} {A2 : Type} {A3 : Type} {A4 : Type} {A5 : Type} {A6 : Type} {A7 : Type} {A8 : Type} {A9 : Type} {A10 : Type} {A11 : Type} {A12 : Type} {β : Type} (o : Option (A1 × A2 × A3 × A4 × A5 × A6 × A7 × A8 × A9 × A10 × A11 × A12)) (k : A1 → A2 → A3 → A4 → A5 → A6 → A7 → A8 → A9 → A10 → A11 → A12 → Option β) : Option β := match o with
  | none => none
  | some (a1, a2, a3, a4, a5, a6, a7, a8, a9, a10, a11, a12) => k a1 a2 a3 a4 a5 a6 a7 a8 a9 a10 a11 a12
theorem bd12_el {A1 : Type} {A2 : Type} {A3 : Type} {A4 : Type} {A5 : Type} {A6 : Type} {A7 : Type} {A8 : Type} {A9 : Type} {A10 : Type} {A11 : Type} {A12 : Type} {β : Type} {o : Option (A1 × A2 × A3 × A4 × A5 × A6 × A7 × A8 × A9 × A10 × A11 × A12)} {k : A1 → A2 → A3 → A4 → A5 → A6 → A7 → A8 → A9 → A10 → A11 → A12 → Option β} {z : β} (h : bd12 o k = some z) : ∃ (a1 : A1) (a2 : A2) (a3 : A3) (a4 : A4) (a5 : A5) (a6 : A6) (a7 : A7) (a8 : A8) (a9 : A9) (a10 : A10) (a11 : A11) (a12 : A12), o = some (a1, a2, a3, a4, a5, a6, a7, a8, a9, a10, a11, a12) ∧ k a1 a2 a3 a4 a5 a6 a7 a8 a9 a10 a11 a12 = some z := by
  cases o with
  | none => cases h
  | some q => exact ⟨q.1, q.2.1, q.2.2.1, q.2.2.2.1, q.2.2.2.2.1, q.2.2.2.2.2.1, q.2.2.2.2.2.2.1, q.2.2.2.2.2.2.2.1, q.2.2.2.2.2.2.2.2.1, q.2.2.2.2.2.2.2.2.2.1, q.2.2.2.2.2.2.2.2.2.2.1, q.2.2.2.2.2.2.2.2.2.2.2, rfl, h⟩
def bs12 {A1 : Type} {A2 : Type} {A3 : Type} {A4 : Type} {A5 : Type} {A6 : Type} {A7 : Type} {A8 : Type} {A9 : Type} {A10 : Type} {A11 : Type} {A12 : Type} {ρ β : Type} (o : Option (ρ ⊕ (A1 × A2 × A3 × A4 × A5 × A6 × A7 × A8 × A9 × A10 × A11 × A12))) (r : ρ → Option β) (k : A1 → A2 → A3 → A4 → A5 → A6 → A7 → A8 → A9 → A10 → A11 → A12 → Option β) : Option β := match o with
  | none => none
  | some (.inl x) => r x
  | some (.inr (a1, a2, a3, a4, a5, a6, a7, a8, a9, a10, a11, a12)) => k a1 a2 a3 a4 a5 a6 a7 a8 a9 a10 a11 a12
theorem bs12_el {A1 : Type} {A2 : Type} {A3 : Type} {A4 : Type} {A5 : Type} {A6 : Type} {A7 : Type} {A8 : Type} {A9 : Type} {A10 : Type} {A11 : Type} {A12 : Type} {ρ β : Type} {o : Option (ρ ⊕ (A1 × A2 × A3 × A4 × A5 × A6 × A7 × A8 × A9 × A10 × A11 × A12))} {r : ρ → Option β} {k : A1 → A2 → A3 → A4 → A5 → A6 → A7 → A8 → A9 → A10 → A11 → A12 → Option β} {z : β} (h : bs12 o r k = some z) : (∃ x : ρ, o = some (.inl x) ∧ r x = some z) ∨ (∃ (a1 : A1) (a2 : A2) (a3 : A3) (a4 : A4) (a5 : A5) (a6 : A6) (a7 : A7) (a8 : A8) (a9 : A9) (a10 : A10) (a11 : A11) (a12 : A12), o = some (.inr (a1, a2, a3, a4, a5, a6, a7, a8, a9, a10, a11, a12)) ∧ k a1 a2 a3 a4 a5 a6 a7 a8 a9 a10 a11 a12 = some z) := by
  rcases o with _ | (x | q)
  · cases h
  · exact Or.inl ⟨x, rfl, h⟩
  · exact Or.inr ⟨q.1, q.2.1, q.2.2.1, q.2.2.2.1, q.2.2.2.2.1, q.2.2.2.2.2.1, q.2.2.2.2.2.2.1, q.2.2.2.2.2.2.2.1, q.2.2.2.2.2.2.2.2.1, q.2.2.2.2.2.2.2.2.2.1, q.2.2.2.2.2.2.2.2.2.2.1, q.2.2.2.2.2.2.2.2.2.2.2, rfl, h⟩
def bd13 {A1 : Type} {A2 : Type} {A3 : Type} {A4 : Type} {A5 : Type} {A6 : Type} {A7 : Type} {A8 : Type} {A9 : Type} {A10 : Type} {A11 : Type} {A12 : Type} {A13 : Type} {β : Type} (o : Option (A1 × A2 × A3 × A4 × A5 × A6 × A7 × A8 × A9 × A10 × A11 × A12 × A13)) (k : A1 → A2 → A3 → A4 → A5 → A6 → A7 → A8 → A9 → A10 → A11 → A12 → A13 → Option β) : Option β := match o with
  | none => none
  | some (a1, a2, a3, a4, a5, a6, a7, a8, a9, a10, a11, a12, a13) => k a1 a2 a3 a4 a5 a6 a7 a8 a9 a10 a11 a12 a13
theorem bd13_el {A1 : Type} {A2 : Type} {A3 : Type} {A4 : Type} {A5 : Type} {A6 : Type} {A7 : Type} {A8 : Type} {A9 : Type} {A10 : Type} {A11 : Type} {A12 : Type} {A13 : Type} {β : Type} {o : Option (A1 × A2 × A3 × A4 × A5 × A6 × A7 × A8 × A9 × A10 × A11 × A12 × A13)} {k : A1 → A2 → A3 → A4 → A5 → A6 → A7 → A8 → A9 → A10 → A11 → A12 → A13 → Option β} {z : β} (h : bd13 o k = some z) : ∃ (a1 : A1) (a2 : A2) (a3 : A3) (a4 : A4) (a5 : A5) (a6 : A6) (a7 : A7) (a8 : A8) (a9 : A9) (a10 : A10) (a11 : A11) (a12 : A12) (a13 : A13), o = some (a1, a2, a3, a4, a5, a6, a7, a8, a9, a10, a11, a12, a13) ∧ k a1 a2 a3 a4 a5 a6 a7 a8 a9 a10 a11 a12 a13 = some z := by
  cases o with
  | none => cases h
  | some q => exact ⟨q.1, q.2.1, q.2.2.1, q.2.2.2.1, q.2.2.2.2.1, q.2.2.2.2.2.1, q.2.2.2.2.2.2.1, q.2.2.2.2.2.2.2.1, q.2.2.2.2.2.2.2.2.1, q.2.2.2.2.2.2.2.2.2.1, q.2.2.2.2.2.2.2.2.2.2.1, q.2.2.2.2.2.2.2.2.2.2.2.1, q.2.2.2.2.2.2.2.2.2.2.2.2, rfl, h⟩
def bs13 {A1 : Type} {A2 : Type} {A3 : Type} {A4 : Type} {A5 : Type} {A6 : Type} {A7 : Type} {A8 : Type} {A9 : Type} {A10 : Type} {A11 : Type} {A12 : Type} {A13 : Type} {ρ β : Type} (o : Option (ρ ⊕ (A1 × A2 × A3 × A4 × A5 × A6 × A7 × A8 × A9 × A10 × A11 × A12 × A13))) (r : ρ → Option β) (k : A1 → A2 → A3 → A4 → A5 → A6 → A7 → A8 → A9 → A10 → A11 → A12 → A13 → Option β) : Option β := match o with
  | none => none
  | some (.inl x) => r x
  | some (.inr (a1, a2, a3, a4, a5, a6, a7, a8, a9, a10, a11, a12, a13)) => k a1 a2 a3 a4 a5 a6 a7 a8 a9 a10 a11 a12 a13
theorem bs13_el {A1 : Type} {A2 : Type} {A3 : Type} {A4 : Type} {A5 : Type} {A6 : Type} {A7 : Type} {A8 : Type} {A9 : Type} {A10 : Type} {A11 : Type} {A12 : Type} {A13 : Type} {ρ β : Type} {o : Option (ρ ⊕ (A1 × A2 × A3 × A4 × A5 × A6 × A7 × A8 × A9 × A10 × A11 × A12 × A13))} {r : ρ → Option β} {k : A1 → A2 → A3 → A4 → A5 → A6 → A7 → A8 → A9 → A10 → A11 → A12 → A13 → Option β} {z : β} (h : bs13 o r k = some z) : (∃ x : ρ, o = some (.inl x) ∧ r x = some z) ∨ (∃ (a1 : A1) (a2 : A2) (a3 : A3) (a4 : A4) (a5 : A5) (a6 : A6) (a7 : A7) (a8 : A8) (a9 : A9) (a10 : A10) (a11 : A11) (a12 : A12) (a13 : A13), o = some (.inr (a1, a2, a3, a4, a5, a6, a7, a8, a9, a10, a11, a12, a13)) ∧ k a1 a2 a3 a4 a5 a6 a7 a8 a9 a10 a11 a12 a13 = some z) := by
  rcases o with _ | (x | q)
  · cases h
  · exact Or.inl ⟨x, rfl, h⟩
  · exact Or.inr ⟨q.1, q.2.1, q.2.2.1, q.2.2.2.1, q.2.2.2.2.1, q.2.2.2.2.2.1, q.2.2.2.2.2.2.1, q.2.2.2.2.2.2.2.1, q.2.2.2.2.2.2.2.2.1, q.2.2.2.2.2.2.2.2.2.1, q.2.2.2.2.2.2.2.2.2.2.1, q.2.2.2.2.2.2.2.2.2.2.2.1, q.2.2.2.2.2.2.2.2.2.2.2.2, rfl, h⟩
def bd14 {A1 : Type} {A2 : Type} {A3 : Type} {A4 : Type} {A5 : Type} {A6 : Type} {A7 : Type} {A8 : Type} {A9 : Type} {A10 : Type} {A11 : Type} {A12 : Type} {A13 : Type} {A14 : Type} {β : Type} (o : Option (A1 × A2 × A3 × A4 × A5 × A6 × A7 × A8 × A9 × A10 × A11 × A12 × A13 × A14)) (k : A1 → A2 → A3 → A4 → A5 → A6 → A7 → A8 → A9 → A10 → A11 → A12 → A13 → A14 → Option β) : Option β := match o with
  | none => none
  | some (a1, a2, a3, a4, a5, a6, a7, a8, a9, a10, a11, a12, a13, a14) => k a1 a2 a3 a4 a5 a6 a7 a8 a9 a10 a11 a12 a13 a14
theorem bd14_el {A1 : Type} {A2 : Type} {A3 : Type} {A4 : Type} {A5 : Type} {A6 : Type} {A7 : Type} {A8 : Type} {A9 : Type} {A10 : Type} {A11 : Type} {A12 : Type} {A13 : Type} {A14 : Type} {β : Type} {o : Option (A1 × A2 × A3 × A4 × A5 × A6 × A7 × A8 × A9 × A10 × A11 × A12 × A13 × A14)} {k : A1 → A2 → A3 → A4 → A5 → A6 → A7 → A8 → A9 → A10 → A11 → A12 → A13 → A14 → Option β} {z : β} (h : bd14 o k = some z) : ∃ (a1 : A1) (a2 : A2) (a3 : A3) (a4 : A4) (a5 : A5) (a6 : A6) (a7 : A7) (a8 : A8) (a9 : A9) (a10 : A10) (a11 : A11) (a12 : A12) (a13 : A13) (a14 : A14), o = some (a1, a2, a3, a4, a5, a6, a7, a8, a9, a10, a11, a12, a13, a14) ∧ k a1 a2 a3 a4 a5 a6 a7 a8 a9 a10 a11 a12 a13 a14 = some z := by
  cases o with
  | none => cases h
  | some q => exact ⟨q.1, q.2.1, q.2.2.1, q.2.2.2.1, q.2.2.2.2.1, q.2.2.2.2.2.1, q.2.2.2.2.2.2.1, q.2.2.2.2.2.2.2.1, q.2.2.2.2.2.2.2.2.1, q.2.2.2.2.2.2.2.2.2.1, q.2.2.2.2.2.2.2.2.2.2.1, q.2.2.2.2.2.2.2.2.2.2.2.1, q.2.2.2.2.2.2.2.2.2.2.2.2.1, q.2.2.2.2.2.2.2.2.2.2.2.2.2, rfl, h⟩
def bs14 {A1 : Type} {A2 : Type} {A3 : Type} {A4 : Type} {A5 : Type} {A6 : Type} {A7 : Type} {A8 : Type} {A9 : Type} {A10 : Type} {A11 : Type} {A12 : Type} {A13 : Type} {A14 : Type} {ρ β : Type} (o : Option (ρ ⊕ (A1 × A2 × A3 × A4 × A5 × A6 × A7 × A8 × A9 × A10 × A11 × A12 × A13 × A14))) (r : ρ → Option β) (k : A1 → A2 → A3 → A4 → A5 → A6 → A7 → A8 → A9 → A10 → A11 → A12 → A13 → A14 → Option β) : Option β := match o with
  | none => none
  | some (.inl x) => r x
  | some (.inr (a1, a2, a3, a4, a5, a6, a7, a8, a9, a10, a11, a12, a13, a14)) => k a1 a2 a3 a4 a5 a6 a7 a8 a9 a10 a11 a12 a13 a14
theorem bs14_el {A1 : Type} {A2 : Type} {A3 : Type} {A4 : Type} {A5 : Type} {A6 : Type} {A7 : Type} {A8 : Type} {A9 : Type} {A10 : Type} {A11 : Type} {A12 : Type} {A13 : Type} {A14 : Type} {ρ β : Type} {o : Option (ρ ⊕ (A1 × A2 × A3 × A4 × A5 × A6 × A7 × A8 × A9 × A10 × A11 × A12 × A13 × A14))} {r : ρ → Option β} {k : A1 → A2 → A3 → A4 → A5 → A6 → A7 → A8 → A9 → A10 → A11 → A12 → A13 → A14 → Option β} {z : β} (h : bs14 o r k = some z) : (∃ x : ρ, o = some (.inl x) ∧ r x = some z) ∨ (∃ (a1 : A1) (a2 : A2) (a3 : A3) (a4 : A4) (a5 : A5) (a6 : A6) (a7 : A7) (a8 : A8) (a9 : A9) (a10 : A10) (a11 : A11) (a12 : A12) (a13 : A13) (a14 : A14), o = some (.inr (a1, a2, a3, a4, a5, a6, a7, a8, a9, a10, a11, a12, a13, a14)) ∧ k a1 a2 a3 a4 a5 a6 a7 a8 a9 a10 a11 a12 a13 a14 = some z) := by
  rcases o with _ | (x | q)
  · cases h
  · exact Or.inl ⟨x, rfl, h⟩
  · exact Or.inr ⟨q.1, q.2.1, q.2.2.1, q.2.2.2.1, q.2.2.2.2.1, q.2.2.2.2.2.1, q.2.2.2.2.2.2.1, q.2.2.2.2.2.2.2.1, q.2.2.2.2.2.2.2.2.1, q.2.2.2.2.2.2.2.2.2.1, q.2.2.2.2.2.2.2.2.2.2.1, q.2.2.2.2.2.2.2.2.2.2.2.1, q.2.2.2.2.2.2.2.2.2.2.2.2.1, q.2.2.2.2.2.2.2.2.2.2.2.2.2, rfl, h⟩
def bd15 {A1 : Type} {A2 : Type} {A3 : Type} {A4 : Type} {A5 : Type} {A6 : Type} {A7 : Type} {A8 : Type} {A9 : Type} {A10 : Type} {A11 : Type} {A12 : Type} {A13 : Type} {A14 : Type} {A15 : Type} {β : Type} (o : Option (A1 × A2 × A3 × A4 × A5 × A6 × A7 × A8 × A9 × A10 × A11 × A12 × A13 × A14 × A15)) (k : A1 → A2 → A3 → A4 → A5 → A6 → A7 → A8 → A9 → A10 → A11 → A12 → A13 → A14 → A15 → Option β) : Option β := match o with
  | none => none
  | some (a1, a2, a3, a4, a5, a6, a7, a8, a9, a10, a11, a12, a13, a14, a15) => k a1 a2 a3 a4 a5 a6 a7 a8 a9 a10 a11 a12 a13 a14 a15
theorem bd15_el {A1 : Type} {A2 : Type} {A3 : Type} {A4 : Type} {A5 : Type} {A6 : Type} {A7 : Type} {A8 : Type} {A9 : Type} {A10 : Type} {A11 : Type} {A12 : Type} {A13 : Type} {A14 : Type} {A15 : Type} {β : Type} {o : Option (A1 × A2 × A3 × A4 × A5 × A6 × A7 × A8 × A9 × A10 × A11 × A12 × A13 × A14 × A15)} {k : A1 → A2 → A3 → A4 → A5 → A6 → A7 → A8 → A9 → A10 → A11 → A12 → A13 → A14 → A15 → Option β} {z : β} (h : bd15 o k = some z) : ∃ (a1 : A1) (a2 : A2) (a3 : A3) (a4 : A4) (a5 : A5) (a6 : A6) (a7 : A7) (a8 : A8) (a9 : A9) (a10 : A10) (a11 : A11) (a12 : A12) (a13 : A13) (a14 : A14) (a15 : A15), o = some (a1, a2, a3, a4, a5, a6, a7, a8, a9, a10, a11, a12, a13, a14, a15) ∧ k a1 a2 a3 a4 a5 a6 a7 a8 a9 a10 a11 a12 a13 a14 a15 = some z := by
  cases o with
  | none => cases h
  | some q => exact ⟨q.1, q.2.1, q.2.2.1, q.2.2.2.1, q.2.2.2.2.1, q.2.2.2.2.2.1, q.2.2.2.2.2.2.1, q.2.2.2.2.2.2.2.1, q.2.2.2.2.2.2.2.2.1, q.2.2.2.2.2.2.2.2.2.1, q.2.2.2.2.2.2.2.2.2.2.1, q.2.2.2.2.2.2.2.2.2.2.2.1, q.2.2.2.2.2.2.2.2.2.2.2.2.1, q.2.2.2.2.2.2.2.2.2.2.2.2.2.1, q.2.2.2.2.2.2.2.2.2.2.2.2.2.2, rfl, h⟩
def bs15 {A1 : Type} {A2 : Type} {A3 : Type} {A4 : Type} {A5 : Type} {A6 : Type} {A7 : Type} {A8 : Type} {A9 : Type} {A10 : Type} {A11 : Type} {A12 : Type} {A13 : Type} {A14 : Type} {A15 : Type} {ρ β : Type} (o : Option (ρ ⊕ (A1 × A2 × A3 × A4 × A5 × A6 × A7 × A8 × A9 × A10 × A11 × A12 × A13 × A14 × A15))) (r : ρ → Option β) (k : A1 → A2 → A3 → A4 → A5 → A6 → A7 → A8 → A9 → A10 → A11 → A12 → A13 → A14 → A15 → Option β) : Option β := match o with
  | none => none
  | some (.inl x) => r x
  | some (.inr (a1, a2, a3, a4, a5, a6, a7, a8, a9, a10, a11, a12, a13, a14, a15)) => k a1 a2 a3 a4 a5 a6 a7 a8 a9 a10 a11 a12 a13 a14 a15
theorem bs15_el {A1 : Type} {A2 : Type} {A3 : Type} {A4 : Type} {A5 : Type} {A6 : Type} {A7 : Type} {A8 : Type} {A9 : Type} {A10 : Type} {A11 : Type} {A12 : Type} {A13 : Type} {A14 : Type} {A15 : Type} {ρ β : Type} {o : Option (ρ ⊕ (A1 × A2 × A3 × A4 × A5 × A6 × A7 × A8 × A9 × A10 × A11 × A12 × A13 × A14 × A15))} {r : ρ → Option β} {k : A1 → A2 → A3 → A4 → A5 → A6 → A7 → A8 → A9 → A10 → A11 → A12 → A13 → A14 → A15 → Option β} {z : β} (h : bs15 o r k = some z) : (∃ x : ρ, o = some (.inl x) ∧ r x = some z) ∨ (∃ (a1 : A1) (a2 : A2) (a3 : A3) (a4 : A4) (a5 : A5) (a6 : A6) (a7 : A7) (a8 : A8) (a9 : A9) (a10 : A10) (a11 : A11) (a12 : A12) (a13 : A13) (a14 : A14) (a15 : A15), o = some (.inr (a1, a2, a3, a4, a5, a6, a7, a8, a9, a10, a11, a12, a13, a14, a15)) ∧ k a1 a2 a3 a4 a5 a6 a7 a8 a9 a10 a11 a12 a13 a14 a15 = some z) := by
  rcases o with _ | (x | q)
  · cases h
  · exact Or.inl ⟨x, rfl, h⟩
  · exact Or.inr ⟨q.1, q.2.1, q.2.2.1, q.2.2.2.1, q.2.2.2.2.1, q.2.2.2.2.2.1, q.2.2.2.2.2.2.1, q.2.2.2.2.2.2.2.1, q.2.2.2.2.2.2.2.2.1, q.2.2.2.2.2.2.2.2.2.1, q.2.2.2.2.2.2.2.2.2.2.1, q.2.2.2.2.2.2.2.2.2.2.2.1, q.2.2.2.2.2.2.2.2.2.2.2.2.1, q.2.2.2.2.2.2.2.2.2.2.2.2.2.1, q.2.2.2.2.2.2.2.2.2.2.2.2.2.2, rfl, h⟩
def bd16 {A1 : Type} {A2 : Type} {A3 : Type} {A4 : Type} {A5 : Type} {A6 : Type} {A7 : Type} {A8 : Type} {A9 : Type} {A10 : Type} {A11 : Type} {A12 : Type} {A13 : Type} {A14 : Type} {A15 : Type} {A16 : Type} {β : Type} (o : Option (A1 × A2 × A3 × A4 × A5 × A6 × A7 × A8 × A9 × A10 × A11 × A12 × A13 × A14 × A15 × A16)) (k : A1 → A2 → A3 → A4 → A5 → A6 → A7 → A8 → A9 → A10 → A11 → A12 → A13 → A14 → A15 → A16 → Option β) : Option β := match o with
  | none => none
  | some (a1, a2, a3, a4, a5, a6, a7, a8, a9, a10, a11, a12, a13, a14, a15, a16) => k a1 a2 a3 a4 a5 a6 a7 a8 a9 a10 a11 a12 a13 a14 a15 a16
theorem bd16_el {A1 : Type} {A2 : Type} {A3 : Type} {A4 : Type} {A5 : Type} {A6 : Type} {A7 : Type} {A8 : Type} {A9 : Type} {A10 : Type} {A11 : Type} {A12 : Type} {A13 : Type} {A14 : Type} {A15 : Type} {A16 : Type} {β : Type} {o : Option (A1 × A2 × A3 × A4 × A5 × A6 × A7 × A8 × A9 × A10 × A11 × A12 × A13 × A14 × A15 × A16)} {k : A1 → A2 → A3 → A4 → A5 → A6 → A7 → A8 → A9 → A10 → A11 → A12 → A13 → A14 → A15 → A16 → Option β} {z : β} (h : bd16 o k = some z) : ∃ (a1 : A1) (a2 : A2) (a3 : A3) (a4 : A4) (a5 : A5) (a6 : A6) (a7 : A7) (a8 : A8) (a9 : A9) (a10 : A10) (a11 : A11) (a12 : A12) (a13 : A13) (a14 : A14) (a15 : A15) (a16 : A16), o = some (a1, a2, a3, a4, a5, a6, a7, a8, a9, a10, a11, a12, a13, a14, a15, a16) ∧ k a1 a2 a3 a4 a5 a6 a7 a8 a9 a10 a11 a12 a13 a14 a15 a16 = some z := by
  cases o with
  | none => cases h
  | some q => exact ⟨q.1, q.2.1, q.2.2.1, q.2.2.2.1, q.2.2.2.2.1, q.2.2.2.2.2.1, q.2.2.2.2.2.2.1, q.2.2.2.2.2.2.2.1, q.2.2.2.2.2.2.2.2.1, q.2.2.2.2.2.2.2.2.2.1, q.2.2.2.2.2.2.2.2.2.2.1, q.2.2.2.2.2.2.2.2.2.2.2.1, q.2.2.2.2.2.2.2.2.2.2.2.2.1, q.2.2.2.2.2.2.2.2.2.2.2.2.2.1, q.2.2.2.2.2.2.2.2.2.2.2.2.2.2.1, q.2.2.2.2.2.2.2.2.2.2.2.2.2.2.2, rfl, h⟩
def bs16 {A1 : Type} {A2 : Type} {A3 : Type} {A4 : Type} {A5 : Type} {A6 : Type} {A7 : Type} {A8 : Type} {A9 : Type} {A10 : Type} {A11 : Type} {A12 : Type} {A13 : Type} {A14 : Type} {A15 : Type} {A16 : Type} {ρ β : Type} (o : Option (ρ ⊕ (A1 × A2 × A3 × A4 × A5 × A6 × A7 × A8 × A9 × A10 × A11 × A12 × A13 × A14 × A15 × A16))) (r : ρ → Option β) (k : A1 → A2 → A3 → A4 → A5 → A6 → A7 → A8 → A9 → A10 → A11 → A12 → A13 → A14 → A15 → A16 → Option β) : Option β := match o with
  | none => none
  | some (.inl x) => r x
  | some (.inr (a1, a2, a3, a4, a5, a6, a7, a8, a9, a10, a11, a12, a13, a14, a15, a16)) => k a1 a2 a3 a4 a5 a6 a7 a8 a9 a10 a11 a12 a13 a14 a15 a16
theorem bs16_el {A1 : Type} {A2 : Type} {A3 : Type} {A4 : Type} {A5 : Type} {A6 : Type} {A7 : Type} {A8 : Type} {A9 : Type} {A10 : Type} {A11 : Type} {A12 : Type} {A13 : Type} {A14 : Type} {A15 : Type} {A16 : Type} {ρ β : Type} {o : Option (ρ ⊕ (A1 × A2 × A3 × A4 × A5 × A6 × A7 × A8 × A9 × A10 × A11 × A12 × A13 × A14 × A15 × A16))} {r : ρ → Option β} {k : A1 → A2 → A3 → A4 → A5 → A6 → A7 → A8 → A9 → A10 → A11 → A12 → A13 → A14 → A15 → A16 → Option β} {z : β} (h : bs16 o r k = some z) : (∃ x : ρ, o = some (.inl x) ∧ r x = some z) ∨ (∃ (a1 : A1) (a2 : A2) (a3 : A3) (a4 : A4) (a5 : A5) (a6 : A6) (a7 : A7) (a8 : A8) (a9 : A9) (a10 : A10) (a11 : A11) (a12 : A12) (a13 : A13) (a14 : A14) (a15 : A15) (a16 : A16), o = some (.inr (a1, a2, a3, a4, a5, a6, a7, a8, a9, a10, a11, a12, a13, a14, a15, a16)) ∧ k a1 a2 a3 a4 a5 a6 a7 a8 a9 a10 a11 a12 a13 a14 a15 a16 = some z) := by
  rcases o with _ | (x | q)
  · cases h
  · exact Or.inl ⟨x, rfl, h⟩
  · exact Or.inr ⟨q.1, q.2.1, q.2.2.1, q.2.2.2.1, q.2.2.2.2.1, q.2.2.2.2.2.1, q.2.2.2.2.2.2.1, q.2.2.2.2.2.2.2.1, q.2.2.2.2.2.2.2.2.1, q.2.2.2.2.2.2.2.2.2.1, q.2.2.2.2.2.2.2.2.2.2.1, q.2.2.2.2.2.2.2.2.2.2.2.1, q.2.2.2.2.2.2.2.2.2.2.2.2.1, q.2.2.2.2.2.2.2.2.2.2.2.2.2.1, q.2.2.2.2.2.2.2.2.2.2.2.2.2.2.1, q.2.2.2.2.2.2.2.2.2.2.2.2.2.2.2, rfl, h⟩
def loopN {σ ε : Type} (b : σ → Option (σ ⊕ ε)) : Nat → σ → Option ε
  | 0, _ => none
  | n + 1, x => match b x with
    | none => none
    | some (.inl y) => loopN b n y
    | some (.inr z) => some z
theorem loopN_el {σ ε : Type} {b : σ → Option (σ ⊕ ε)} {n : Nat} {x : σ} {z : ε} (h : loopN b (n + 1) x = some z) : (∃ y, b x = some (.inl y) ∧ loopN b n y = some z) ∨ b x = some (.inr z) := by
  unfold loopN at h
  cases hb : b x with
  | none => rw [hb] at h; cases h
  | some q =>
    rw [hb] at h
    cases q with
    | inl y => exact Or.inl ⟨y, rfl, h⟩
    | inr y => cases h; exact Or.inr rfl
/-! ===== a method's frame, its contract's form, its calls ===== -/
abbrev tyl (cyI cyJ cyZ : ClassId) : List (ClassId × FieldType) := [(cyI, .int), (cyJ, .long), (cyZ, .boolean)]
def Cx (p : Program) (s : State) (m : MethodId) (args : Array Value) (meth : Method) (c : Code) (cc : ByteArray) (ret : Option FieldType) (nL : Nat) (own : String) (ws : List Cond) (A : Nat → Prop) (dC : Nat → ClassId) (dI : Nat → Nat → Nat) (cyI cyJ cyZ : ClassId) : Prop :=
  p.tables.exec = Jvm.exec ∧ c.code = cc ∧ meth.sig.returnType = ret ∧ meth.locks = false ∧ c.maxLocals = nL ∧ s.vm.findClass own = some m.cls ∧ (∀ w ∈ ws, w.before args s = true) ∧ (∀ q : Nat, s.heap.size ≤ q → A q) ∧ va_K (dC, dI) vwCl (tyl cyI cyJ cyZ) s
def Pz (dC : Nat → ClassId) (dI : Nat → Nat → Nat) (cyI cyJ cyZ : ClassId) (av : List Value) (sz : Nat) (wc : va_W) (X : (Nat → Prop) → State → Prop) : Array Value → State → Prop :=
  va_Pc av (fun U => U.heap.size = sz ∧ va_P (dC, dI) vwCl wc U.heap ∧ va_K (dC, dI) vwCl (tyl cyI cyJ cyZ) U ∧ va_D (fun _ => True) wc ∧ X (va_A wc sz) U)
def Bz (dC : Nat → ClassId) (dI : Nat → Nat → Nat) (cyI cyJ cyZ : ClassId) (A : Nat → Prop) (w1 : va_W) : Unit → State → Prop := fun _ t => va_P (dC, dI) vwCl w1 t.heap ∧ va_K (dC, dI) vwCl (tyl cyI cyJ cyZ) t ∧ va_D A w1
abbrev Qzi (dC : Nat → ClassId) (dI : Nat → Nat → Nat) (cyI cyJ cyZ : ClassId) (A : Nat → Prop) (w1 : va_W) (r : Int32) : Array Value → State → Outcome → State → Prop := va_Qi (fun (x : Int32) (_ : Unit) => x = r) (Bz dC dI cyI cyJ cyZ A w1) A
abbrev Qzl (dC : Nat → ClassId) (dI : Nat → Nat → Nat) (cyI cyJ cyZ : ClassId) (A : Nat → Prop) (w1 : va_W) (r : Int64) : Array Value → State → Outcome → State → Prop := va_Ql (fun (x : Int64) (_ : Unit) => x = r) (Bz dC dI cyI cyJ cyZ A w1) A
abbrev Qzv (dC : Nat → ClassId) (dI : Nat → Nat → Nat) (cyI cyJ cyZ : ClassId) (A : Nat → Prop) (w1 : va_W) : Array Value → State → Outcome → State → Prop := va_Qv (fun (_ : Unit) => True) (Bz dC dI cyI cyJ cyZ A w1) A
def X0 : (Nat → Prop) → State → Prop := fun _ _ => True
def tbC : Nat → Int32 := fun k => ([0, 1, 2, 3, 4, 5, 6, 7, 8, 9, 10, 0, 0, 1, 3, 6, 10, 15, 21, 28, 36, 45, 0, 0, 0, 1, 4, 10, 20, 35, 56, 84, 120, 0, 0, 0, 0, 1, 5, 15, 35, 70, 126, 210, 0, 0, 0, 0, 0, 1, 6, 21, 56, 126, 252] : List Int32).getD k 0
def tbL : Nat → Int32 := fun k => ([0, 0, 0, 1] : List Int32).getD k 0
def tbM : Nat → Int32 := fun k => ([1, 0, 3, 2, 0, 1, 2, 3, 1, 2, 1, 3, 2, 1, 3, 1, 0, 3, 0, 2, 3, 0, 2, 0] : List Int32).getD k 0
def tbH : Nat → Int32 := fun k => ([1, 1, 2, 0, 1, 2, 3, 0, 2, 1, 3, 0, 2, 2, 3, 0, 3, 0, 3, 3, 0, 3, 3, 3] : List Int32).getD k 0
/-- a static int array that nobody writes -/
def Stt (C n : String) (t N : Nat) (f : Nat → Int32) (A : Nat → Prop) (U : State) : Prop := va_Z C n "[I" (.ref t) A U U.heap ∧ va_T .int t N (fun j => .int (f j)) A U U.heap
def XC (tC : Nat) : (Nat → Prop) → State → Prop := fun A U => Stt "MetAgents$Configuration" "CHOICES" tC 55 tbC A U
def XP (tL tM tH : Nat) : (Nat → Prop) → State → Prop := fun A U => Stt "MetAgents" "LEADER" tL 4 tbL A U ∧ Stt "MetAgents" "MAJORITY" tM 24 tbM A U ∧ Stt "MetAgents" "HEAPS" tH 24 tbH A U
/-- what a word on statics needs to be carried to a callee -/
def Car (X : (Nat → Prop) → State → Prop) : Prop := (∀ (A B : Nat → Prop) (s U : State) (H0 : Heap), s.heap = H0 → X A s → s.vm.Alike U.vm → (∀ q : Nat, q < H0.size → ¬ A q → U.heap[q]? = H0[q]?) → (∀ q, B q → A q) → X B U)
theorem X0_car : Car X0 := fun _ _ _ _ _ _ _ _ _ _ => trivial
theorem Stt_car (C n : String) (t N : Nat) (f : Nat → Int32) : Car (Stt C n t N f) := by
  intro A B s U H0 h0 h hvm hk hAB
  subst h0
  obtain ⟨h1, h2⟩ := h
  exact ⟨((h1.kept hk).narrow hAB).moved hvm, ((h2.kept hk).narrow hAB).moved hvm⟩
theorem XC_car (tC : Nat) : Car (XC tC) := Stt_car _ _ _ _ _
theorem XP_car (tL tM tH : Nat) : Car (XP tL tM tH) := fun A B s U H0 h0 h hvm hk hAB => ⟨Stt_car _ _ _ _ _ A B s U H0 h0 h.1 hvm hk hAB, Stt_car _ _ _ _ _ A B s U H0 h0 h.2.1 hvm hk hAB, Stt_car _ _ _ _ _ A B s U H0 h0 h.2.2 hvm hk hAB⟩
theorem mem_r {big ws : List Cond} (ps : List Nat) (hp : ws = ps.filterMap (fun i => big[i]?)) : ∀ w ∈ ws, w ∈ big := by
  intro w hw
  rw [hp] at hw
  obtain ⟨i, -, hi⟩ := List.mem_filterMap.mp hw
  exact List.mem_of_getElem? hi
theorem sub_P {D : va_G} {cl : List vw_C} {ws ws' : va_W} {H : Heap} (h : va_P D cl ws H) (is : List Nat) (hs : is.map (fun i => ws[i]?) = ws'.map some) : va_P D cl ws' H := by
  intro k q hk
  have h1 : (is.map (fun i => ws[i]?))[k]? = some (some q) := by rw [hs, List.getElem?_map, hk]; rfl
  rw [List.getElem?_map] at h1
  cases hi : is[k]? with
  | none => rw [hi] at h1; cases h1
  | some i => rw [hi] at h1; exact h i q (Option.some.inj h1)
theorem sw_out3 {x : Int32} (h0 : ¬ x = 0) (h1 : ¬ x = 1) (h2 : ¬ x = 2) : x.toInt < 0 ∨ 2 < x.toInt := by
  have g0 : x.toInt ≠ 0 := fun q => h0 (Int32.toInt_inj.mp (by rw [q]; rfl))
  have g1 : x.toInt ≠ 1 := fun q => h1 (Int32.toInt_inj.mp (by rw [q]; rfl))
  have g2 : x.toInt ≠ 2 := fun q => h2 (Int32.toInt_inj.mp (by rw [q]; rfl))
  omega
theorem sw_out4 {x : Int32} (h0 : ¬ x = 0) (h1 : ¬ x = 1) (h2 : ¬ x = 2) (h3 : ¬ x = 3) : x.toInt < 0 ∨ 3 < x.toInt := by
  have g0 : x.toInt ≠ 0 := fun q => h0 (Int32.toInt_inj.mp (by rw [q]; rfl))
  have g1 : x.toInt ≠ 1 := fun q => h1 (Int32.toInt_inj.mp (by rw [q]; rfl))
  have g2 : x.toInt ≠ 2 := fun q => h2 (Int32.toInt_inj.mp (by rw [q]; rfl))
  have g3 : x.toInt ≠ 3 := fun q => h3 (Int32.toInt_inj.mp (by rw [q]; rfl))
  omega
theorem sw_out25 {x : Int32} (h0 : ¬ x = 0) (h1 : ¬ x = 1) (h2 : ¬ x = 2) (h3 : ¬ x = 3) (h4 : ¬ x = 4) (h5 : ¬ x = 5) (h6 : ¬ x = 6) (h7 : ¬ x = 7) (h8 : ¬ x = 8) (h9 : ¬ x = 9) (h10 : ¬ x = 10) (h11 : ¬ x = 11) (h12 : ¬ x = 12) (h13 : ¬ x = 13) (h14 : ¬ x = 14) (h15 : ¬ x = 15) (h16 : ¬ x = 16) (h17 : ¬ x = 17) (h18 : ¬ x = 18) (h19 : ¬ x = 19) (h20 : ¬ x = 20) (h21 : ¬ x = 21) (h22 : ¬ x = 22) (h23 : ¬ x = 23) (h24 : ¬ x = 24) : x.toInt < 0 ∨ 24 < x.toInt := by
  have g0 : x.toInt ≠ 0 := fun q => h0 (Int32.toInt_inj.mp (by rw [q]; rfl))
  have g1 : x.toInt ≠ 1 := fun q => h1 (Int32.toInt_inj.mp (by rw [q]; rfl))
  have g2 : x.toInt ≠ 2 := fun q => h2 (Int32.toInt_inj.mp (by rw [q]; rfl))
  have g3 : x.toInt ≠ 3 := fun q => h3 (Int32.toInt_inj.mp (by rw [q]; rfl))
  have g4 : x.toInt ≠ 4 := fun q => h4 (Int32.toInt_inj.mp (by rw [q]; rfl))
  have g5 : x.toInt ≠ 5 := fun q => h5 (Int32.toInt_inj.mp (by rw [q]; rfl))
  have g6 : x.toInt ≠ 6 := fun q => h6 (Int32.toInt_inj.mp (by rw [q]; rfl))
  have g7 : x.toInt ≠ 7 := fun q => h7 (Int32.toInt_inj.mp (by rw [q]; rfl))
  have g8 : x.toInt ≠ 8 := fun q => h8 (Int32.toInt_inj.mp (by rw [q]; rfl))
  have g9 : x.toInt ≠ 9 := fun q => h9 (Int32.toInt_inj.mp (by rw [q]; rfl))
  have g10 : x.toInt ≠ 10 := fun q => h10 (Int32.toInt_inj.mp (by rw [q]; rfl))
  have g11 : x.toInt ≠ 11 := fun q => h11 (Int32.toInt_inj.mp (by rw [q]; rfl))
  have g12 : x.toInt ≠ 12 := fun q => h12 (Int32.toInt_inj.mp (by rw [q]; rfl))
  have g13 : x.toInt ≠ 13 := fun q => h13 (Int32.toInt_inj.mp (by rw [q]; rfl))
  have g14 : x.toInt ≠ 14 := fun q => h14 (Int32.toInt_inj.mp (by rw [q]; rfl))
  have g15 : x.toInt ≠ 15 := fun q => h15 (Int32.toInt_inj.mp (by rw [q]; rfl))
  have g16 : x.toInt ≠ 16 := fun q => h16 (Int32.toInt_inj.mp (by rw [q]; rfl))
  have g17 : x.toInt ≠ 17 := fun q => h17 (Int32.toInt_inj.mp (by rw [q]; rfl))
  have g18 : x.toInt ≠ 18 := fun q => h18 (Int32.toInt_inj.mp (by rw [q]; rfl))
  have g19 : x.toInt ≠ 19 := fun q => h19 (Int32.toInt_inj.mp (by rw [q]; rfl))
  have g20 : x.toInt ≠ 20 := fun q => h20 (Int32.toInt_inj.mp (by rw [q]; rfl))
  have g21 : x.toInt ≠ 21 := fun q => h21 (Int32.toInt_inj.mp (by rw [q]; rfl))
  have g22 : x.toInt ≠ 22 := fun q => h22 (Int32.toInt_inj.mp (by rw [q]; rfl))
  have g23 : x.toInt ≠ 23 := fun q => h23 (Int32.toInt_inj.mp (by rw [q]; rfl))
  have g24 : x.toInt ≠ 24 := fun q => h24 (Int32.toInt_inj.mp (by rw [q]; rfl))
  omega
section ZZ
variable {p : Program} {l : Launch} {e : Env} {R : Room} {s : State} {m : MethodId} {args : Array Value} {below : List Frame} {meth : Method} {c : Code} {H : Heap} {locs : List Loc} {cells slots : Nat} {Q : State → Prop}
variable {cc bytes : ByteArray} {pc nL maxL index n : Nat} {ls : Array Slot} {rest st0 : List Value} {A : Nat → Prop} {Ts ws : List Cond} {own C : String} {y : MethodName} {ret ret0 : Option FieldType} {rm : Room} {b : Addr} {As : List Value} {a : Array Value}
variable {dC : Nat → ClassId} {dI : Nat → Nat → Nat} {cyI cyJ cyZ : ClassId} {X X' : (Nat → Prop) → State → Prop} {w0 wc wr w1 w2 : va_W}
theorem top_i {x y : Int32} (h : y = x) (k : W p l e R s m args below meth c H locs cells slots Q (F0 m pc ls (.int y :: rest))) : W p l e R s m args below meth c H locs cells slots Q (F0 m pc ls (.int x :: rest)) := h ▸ k
theorem top_l {x y : Int64} (h : y = x) (k : W p l e R s m args below meth c H locs cells slots Q (F0 m pc ls (.long y :: rest))) : W p l e R s m args below meth c H locs cells slots Q (F0 m pc ls (.long x :: rest)) := h ▸ k
section AST
variable {D : va_G} {cl : List vw_C} {tys : List (ClassId × FieldType)} {v0 v2 : va_W} {H0 : Heap} {a0 : Nat}
theorem ast_i (hexec : p.tables.exec = Jvm.exec) (hb : c.code = cc) (hK : va_K D cl tys s) (hP : va_P D cl w0 H) (hD : va_D A w0) (hS : va_S A H0 H locs) (q0 t0 : Nat) {cA : ClassId} {n : Nat} {f f1 : Nat → Int32} (ha : w0[q0]? = some (a0, .inl (cA, n, .inl f))) (ht : tys[t0]? = some (cA, .int)) {i : Int32} {x : Int32} (hin : vp_in i n) (hf : f1 = upd f i.toNatClampNeg x) (hw : w0.set q0 (a0, .inl (cA, n, .inl f1)) = w2) (hdg : decode cc pc = .ok (.iastore, 1))
    (kk : ∀ (H1 : Heap) (locs1 : List Loc), va_P D cl w2 H1 → va_D A w2 → va_S A H0 H1 locs1 → W p l e R s m args below meth c H1 locs1 cells slots Q (F0 m (pc + 1) ls rest)) : W p l e R s m args below meth c H locs cells slots Q (F0 m pc ls (.int x :: .int i :: .ref a0 :: rest)) := by
  subst hw; subst hf
  exact va_iast hexec hb hK hP hD hS q0 t0 ha ht hin hdg kk
theorem ast_z (hexec : p.tables.exec = Jvm.exec) (hb : c.code = cc) (hK : va_K D cl tys s) (hP : va_P D cl w0 H) (hD : va_D A w0) (hS : va_S A H0 H locs) (q0 t0 : Nat) {cA : ClassId} {n : Nat} {f f1 : Nat → Int32} (ha : w0[q0]? = some (a0, .inl (cA, n, .inl f))) (ht : tys[t0]? = some (cA, .boolean)) {i : Int32} {x : Int32} (hin : vp_in i n) (hf : f1 = upd f i.toNatClampNeg (vp_nar .boolean x)) (hw : w0.set q0 (a0, .inl (cA, n, .inl f1)) = w2) (hdg : decode cc pc = .ok (.bastore, 1))
    (kk : ∀ (H1 : Heap) (locs1 : List Loc), va_P D cl w2 H1 → va_D A w2 → va_S A H0 H1 locs1 → W p l e R s m args below meth c H1 locs1 cells slots Q (F0 m (pc + 1) ls rest)) : W p l e R s m args below meth c H locs cells slots Q (F0 m pc ls (.int x :: .int i :: .ref a0 :: rest)) := by
  subst hw; subst hf
  exact va_zast hexec hb hK hP hD hS q0 t0 ha ht hin hdg kk
theorem ast_l (hexec : p.tables.exec = Jvm.exec) (hb : c.code = cc) (hK : va_K D cl tys s) (hP : va_P D cl w0 H) (hD : va_D A w0) (hS : va_S A H0 H locs) (q0 t0 : Nat) {cA : ClassId} {n : Nat} {f f1 : Nat → Int64} (ha : w0[q0]? = some (a0, .inl (cA, n, .inr (.inl f)))) (ht : tys[t0]? = some (cA, .long)) {i : Int32} {x : Int64} (hin : vp_in i n) (hf : f1 = vp_updL f i.toNatClampNeg x) (hw : w0.set q0 (a0, .inl (cA, n, .inr (.inl f1))) = w2) (hdg : decode cc pc = .ok (.lastore, 1))
    (kk : ∀ (H1 : Heap) (locs1 : List Loc), va_P D cl w2 H1 → va_D A w2 → va_S A H0 H1 locs1 → W p l e R s m args below meth c H1 locs1 cells slots Q (F0 m (pc + 1) ls rest)) : W p l e R s m args below meth c H locs cells slots Q (F0 m pc ls (.long x :: .int i :: .ref a0 :: rest)) := by
  subst hw; subst hf
  exact va_last hexec hb hK hP hD hS q0 t0 ha ht hin hdg kk
theorem cpy_l (hexec : p.tables.exec = Jvm.exec) (hb : c.code = cc) (hml : c.maxLocals = ls.size) {own : String} {index : Nat} (hown : s.vm.findClass own = some m.cls) (hlink : (Cond.methodLink own index arraycopyName).before args s = true) (hnat : (Cond.native arraycopyName).before args s = true) (hstat : (Cond.static arraycopyName).before args s = true) (hini : (Cond.initialized "java/lang/System").before args s = true)
    (hK : va_K D cl tys s) (hP : va_P D cl w0 H) (hD : va_D A w0) (hS : va_S A H0 H locs) (q0 q1 t0 : Nat) {a1 : Nat} {c0 : ClassId} {f g g1 : Nat → Int64} (ha0 : w0[q0]? = some (a1, .inl (c0, 462, .inr (.inl f)))) (ha1 : w0[q1]? = some (a0, .inl (c0, 462, .inr (.inl g)))) (ht0 : tys[t0]? = some (c0, .long)) (hf : g1 = va_cpy f g 0 0 462) (hw : w0.set q1 (a0, .inl (c0, 462, .inr (.inl g1))) = w2)
    (hframes : 1 ≤ R.frames) (hlocals : (rest.map fun v => v.category).sum + (nativeFrameWords "java/lang/System" "arraycopy" 5 + 11) ≤ R.locals) (hdg : decode cc pc = .ok (.invokestatic index, 3))
    (kk : ∀ (H1 : Heap) (locs1 : List Loc), va_P D cl w2 H1 → va_D A w2 → va_S A H0 H1 locs1 → W p l e R s m args below meth c H1 locs1 cells slots Q (F0 m (pc + 3) ls rest)) : W p l e R s m args below meth c H locs cells slots Q (F0 m pc ls (.int (nI 462) :: .int 0 :: .ref a0 :: .int 0 :: .ref a1 :: rest)) := by
  subst hw; subst hf
  exact va_copyl hexec hb hml hown hlink hnat hstat hini hK hP hD hS q0 q1 t0 t0 ha0 ha1 ht0 ht0 rfl (by decide) (by decide) (by decide) (by decide) (by decide) (fun _ _ => rfl) hframes hlocals hdg kk
end AST
theorem Pz_blind {av : List Value} {sz : Nat} (hX : Car X) : FrameBlind (Pz dC dI cyI cyJ cyZ av sz wc X) := by
  intro a U g mk q
  obtain ⟨q0, q1, qP, qK, qD, qX⟩ := q
  exact ⟨q0, q1, qP, va_K.moved (u := U) (U := U.calling g mk a) (Vm.Alike.refl U.vm) qK, qD, hX _ _ U (U.calling g mk a) U.heap rfl qX (Vm.Alike.refl U.vm) (fun _ _ _ => rfl) (fun _ h => h)⟩
theorem Pz_pre {av : List Value} (hK : va_K (dC, dI) vwCl (tyl cyI cyJ cyZ) s) (hP : va_P (dC, dI) vwCl w0 H) (hD : va_D A w0) (hS : va_S A s.heap H locs) (hA : ∀ q : Nat, s.heap.size ≤ q → A q) (isC : List Nat) (hC : isC.map (fun i => w0[i]?) = wc.map some) (hn : va_nd isC = true) (hX : Car X) (hXs : X A s) : ∀ U : State, U.heap = H → s.WarmedH U.vm → Pz dC dI cyI cyJ cyZ av H.size wc X av.toArray U := by
  intro U hU hW
  have hF := va_free hD hS hA isC hC
  exact ⟨rfl, by rw [hU], by rw [hU]; exact sub_P hP isC hC, va_K.moved hW.alike hK, (hD.sub isC hn hC).weaken (fun _ _ _ _ => trivial), hX _ _ s U s.heap rfl hXs hW.alike (fun q h1 h2 => by rw [hU]; exact hS.2.1 q h1 h2) hF⟩
/-- the world behind a call -/
theorem Bz_join {t : State} {H1 : Heap} (ht : t.heap = H1) (hP : va_P (dC, dI) vwCl w0 H) (hD : va_D A w0) (hS : va_S A s.heap H locs) (hA : ∀ q : Nat, s.heap.size ≤ q → A q) (isC isR pm : List Nat) (hC : isC.map (fun i => w0[i]?) = wc.map some) (hR : isR.map (fun i => w0[i]?) = wr.map some) (hn : va_nd isR = true) (hdis : ∀ i ∈ isR, i ∉ isC) (hpm : pm.map (fun i => (wr ++ w1)[i]?) = w2.map some) (hnp : va_nd pm = true)
    (hk : ∀ q : Nat, q < H.size → ¬ va_A wc H.size q → H1[q]? = H[q]?) {u : Unit} (hB : Bz dC dI cyI cyJ cyZ (va_A wc H.size) w1 u t) : va_P (dC, dI) vwCl w2 H1 ∧ va_D A w2 := by
  obtain ⟨hP1, hK1, hD1⟩ := hB
  rw [ht] at hP1
  obtain ⟨hP, hD⟩ := va_join hP hD isC isR hC hR hn hdis hk (va_free hD hS hA isC hC) hP1 hD1
  exact ⟨sub_P hP pm hpm, hD.sub pm hnp hpm⟩
/-- what a call leaves to show behind it -/
theorem cl_i {r1 : Int32} (C0 : Cx p s m args meth c cc ret0 nL own Ts A dC dI cyI cyJ cyZ) (hr : va_Run p l e R s m args below meth c H locs cells slots 0 0 (F0 m pc ls st0) rest (Qzi dC dI cyI cyJ cyZ (va_A wc H.size) w1 r1 a) (va_A wc H.size))
    (hP : va_P (dC, dI) vwCl w0 H) (hD : va_D A w0) (hS : va_S A s.heap H locs) (isC isR pm : List Nat) (hC : isC.map (fun i => w0[i]?) = wc.map some) (hR : isR.map (fun i => w0[i]?) = wr.map some) (hn : va_nd isR = true) (hdis : ∀ i ∈ isR, i ∉ isC) (hpm : pm.map (fun i => (wr ++ w1)[i]?) = w2.map some) (hnp : va_nd pm = true)
    (kk : ∀ (H1 : Heap) (locs1 : List Loc), va_P (dC, dI) vwCl w2 H1 → va_D A w2 → va_S A s.heap H1 locs1 → W p l e R s m args below meth c H1 locs1 cells slots Q (F0 m (pc + 3) ls (.int r1 :: rest))) : W p l e R s m args below meth c H locs cells slots Q (F0 m pc ls st0) := by
  obtain ⟨-, -, -, -, -, -, -, hA, -⟩ := C0
  have hF := va_free hD hS hA isC hC
  refine va_calli hr hS (fun q _ h => hF q h) hF (fun r u t H1 locs1 ht hvm hw hB hz hk hS1 => ?_)
  obtain ⟨g1, g2⟩ := Bz_join ht hP hD hS hA isC isR pm hC hR hn hdis hpm hnp hk hB
  have hw : r = r1 := hw
  subst hw
  exact kk H1 locs1 g1 g2 hS1
theorem cl_l {r1 : Int64} (C0 : Cx p s m args meth c cc ret0 nL own Ts A dC dI cyI cyJ cyZ) (hr : va_Run p l e R s m args below meth c H locs cells slots 0 0 (F0 m pc ls st0) rest (Qzl dC dI cyI cyJ cyZ (va_A wc H.size) w1 r1 a) (va_A wc H.size))
    (hP : va_P (dC, dI) vwCl w0 H) (hD : va_D A w0) (hS : va_S A s.heap H locs) (isC isR pm : List Nat) (hC : isC.map (fun i => w0[i]?) = wc.map some) (hR : isR.map (fun i => w0[i]?) = wr.map some) (hn : va_nd isR = true) (hdis : ∀ i ∈ isR, i ∉ isC) (hpm : pm.map (fun i => (wr ++ w1)[i]?) = w2.map some) (hnp : va_nd pm = true)
    (kk : ∀ (H1 : Heap) (locs1 : List Loc), va_P (dC, dI) vwCl w2 H1 → va_D A w2 → va_S A s.heap H1 locs1 → W p l e R s m args below meth c H1 locs1 cells slots Q (F0 m (pc + 3) ls (.long r1 :: rest))) : W p l e R s m args below meth c H locs cells slots Q (F0 m pc ls st0) := by
  obtain ⟨-, -, -, -, -, -, -, hA, -⟩ := C0
  have hF := va_free hD hS hA isC hC
  refine va_calll hr hS (fun q _ h => hF q h) hF (fun r u t H1 locs1 ht hvm hw hB hz hk hS1 => ?_)
  obtain ⟨g1, g2⟩ := Bz_join ht hP hD hS hA isC isR pm hC hR hn hdis hpm hnp hk hB
  have hw : r = r1 := hw
  subst hw
  exact kk H1 locs1 g1 g2 hS1
theorem cl_v (C0 : Cx p s m args meth c cc ret0 nL own Ts A dC dI cyI cyJ cyZ) (hr : va_Run p l e R s m args below meth c H locs cells slots 0 0 (F0 m pc ls st0) rest (Qzv dC dI cyI cyJ cyZ (va_A wc H.size) w1 a) (va_A wc H.size))
    (hP : va_P (dC, dI) vwCl w0 H) (hD : va_D A w0) (hS : va_S A s.heap H locs) (isC isR pm : List Nat) (hC : isC.map (fun i => w0[i]?) = wc.map some) (hR : isR.map (fun i => w0[i]?) = wr.map some) (hn : va_nd isR = true) (hdis : ∀ i ∈ isR, i ∉ isC) (hpm : pm.map (fun i => (wr ++ w1)[i]?) = w2.map some) (hnp : va_nd pm = true)
    (kk : ∀ (H1 : Heap) (locs1 : List Loc), va_P (dC, dI) vwCl w2 H1 → va_D A w2 → va_S A s.heap H1 locs1 → W p l e R s m args below meth c H1 locs1 cells slots Q (F0 m (pc + 3) ls rest)) : W p l e R s m args below meth c H locs cells slots Q (F0 m pc ls st0) := by
  obtain ⟨-, -, -, -, -, -, -, hA, -⟩ := C0
  have hF := va_free hD hS hA isC hC
  refine va_callv hr hS (fun q _ h => hF q h) hF (fun u t H1 locs1 ht hvm hw hB hz hk hS1 => ?_)
  obtain ⟨g1, g2⟩ := Bz_join ht hP hD hS hA isC isR pm hC hR hn hdis hpm hnp hk hB
  exact kk H1 locs1 g1 g2 hS1
/-- a virtual call, a static call: the run of it -/
theorem rn_V {Qc : Array Value → State → Outcome → State → Prop} (C0 : Cx p s m args meth c cc ret0 nL own Ts A dC dI cyI cyJ cyZ) (hM : Met l y ws rm (Pz dC dI cyI cyJ cyZ (.ref b :: As) H.size wc X) Qc 0 0 (va_A wc H.size)) (cw : CallW R s args own C index y bytes maxL ret ws rm 0 0 n) (hX : Car X) (hXs : X A s)
    (hP : va_P (dC, dI) vwCl w0 H) (hD : va_D A w0) (hS : va_S A s.heap H locs) (isC : List Nat) (hC : isC.map (fun i => w0[i]?) = wc.map some) (hnC : va_nd isC = true) (q0 ci : Nat) {T9 : u_T} {N9 : Nat} {fs : List Value} (hc : vwCl[ci]? = some (C, T9, N9)) (he : w0[q0]? = some (b, .inr (ci, fs)))
    (hn : As.length = n) (hsize : ls.size = nL) (hstack : st0 = As.reverse ++ .ref b :: rest) (hW : (rest.map fun v => v.category).sum ≤ 8) (hdg : decode cc pc = .ok (.invokevirtual index, 3)) (hf : cells + 0 ≤ R.cells ∧ slots + 0 ≤ R.slots) :
    va_Run p l e R s m args below meth c H locs cells slots 0 0 (F0 m pc ls st0) rest (Qc (Value.ref b :: As).toArray) (va_A wc H.size) := by
  obtain ⟨hx, hb, -, -, hml, hown, hts, hA, hK⟩ := C0
  refine va_runV (As := As) (rest := rest) (C := C) ⟨hx, hb, hml, hown, hts⟩ hM cw ⟨Pz_blind hX, va_recv hK hP hc he, Pz_pre hK hP hD hS hA isC hC hnC hX hXs⟩ rfl hn hsize hstack ?_ hdg hf
  show 2 * 0 + _ ≤ 8
  omega
theorem rn_S {Qc : Array Value → State → Outcome → State → Prop} (C0 : Cx p s m args meth c cc ret0 nL own Ts A dC dI cyI cyJ cyZ) (hM : Met l y ws rm (Pz dC dI cyI cyJ cyZ As H.size wc X) Qc 0 0 (va_A wc H.size)) (cw : CallB R s args own index y bytes maxL ret ws rm 0 0 n ∧ (Cond.static y).before args s = true) (hX : Car X) (hXs : X A s)
    (hP : va_P (dC, dI) vwCl w0 H) (hD : va_D A w0) (hS : va_S A s.heap H locs) (isC : List Nat) (hC : isC.map (fun i => w0[i]?) = wc.map some) (hnC : va_nd isC = true)
    (hn : As.length = n) (hsize : ls.size = nL) (hstack : st0 = As.reverse ++ rest) (hW : (rest.map fun v => v.category).sum ≤ 8) (hdg : decode cc pc = .ok (.invokestatic index, 3)) (hf : cells + 0 ≤ R.cells ∧ slots + 0 ≤ R.slots) :
    va_Run p l e R s m args below meth c H locs cells slots 0 0 (F0 m pc ls st0) rest (Qc As.toArray) (va_A wc H.size) := by
  obtain ⟨hx, hb, -, -, hml, hown, hts, hA, hK⟩ := C0
  refine va_runS (As := As) (rest := rest) ⟨hx, hb, hml, hown, hts⟩ hM cw ⟨Pz_blind hX, Pz_pre hK hP hD hS hA isC hC hnC hX hXs⟩ rfl hn hsize hstack ?_ hdg hf
  show 2 * 0 + _ ≤ 8
  omega
/-- from a contract's start to the walk -/
theorem Met_of {Qc : Array Value → State → Outcome → State → Prop} {av : List Value} {sz : Nat} {ws' : List Cond} (hy : plainName y.cls = true) (hw : ws = Cond.code y cc maxL ret :: ws') (hlen : (lg_sl av).length ≤ maxL)
    (body : ∀ (p : Program) (e : Env) (s : State) (m : MethodId) (args : Array Value) (below : List Frame) (meth : Method) (c : Code) (ls : Array Slot), Cx p s m args meth c cc ret maxL y.cls ws (va_A wc sz) dC dI cyI cyJ cyZ → s.heap.size = sz → X (va_A wc sz) s → va_P (dC, dI) vwCl wc s.heap → va_D (va_A wc sz) wc → va_S (va_A wc sz) s.heap s.heap [] → lv_has ls maxL (lv_args 0 av) →
      W p l e rm s m args below meth c s.heap [] 0 0 (MQ below Qc args s 0 0 (va_A wc sz)) (F0 m 0 ls [])) : Met l y ws rm (Pz dC dI cyI cyJ cyZ av sz wc X) Qc 0 0 (va_A wc sz) := by
  refine Met.ofW (cc := cc) (maxL := maxL) (ret := ret) hy hw ?_
  intro p e s m args below meth c s₁ B hml hv
  obtain ⟨rfl, hsz, hP, hK, hD0, hXs⟩ := hv
  have hl := lv_entry av (n := maxL) hlen
  rw [lg_entry_eq]
  exact body p e s m _ below meth c _ ⟨B.exec, B.bytes, B.returns, B.notSynchronized, hml, findClass_of_methodNamed B.named, atoms_spec (ws := ws) B.pre, fun q h => Or.inr (by rw [← hsz]; exact h), hK⟩ hsz hXs hP hD0.self va_S.rf hl
end ZZ

