/-! part 14: how the printed instructions are checked -/
def gk_chk (code : ByteArray) (pc : Nat) (o : Option Instr) : Bool := match o with
  | none => true
  | some i => (match decode code pc with
    | .ok (j, len) => decide (j = i) && (Nat.beq (gk_len i) 0 || Nat.beq len (gk_len i))
    | _ => false)
def gk_dok (code : ByteArray) (f : Nat → Option Instr) : Prop := ∀ (pc : Nat) (i : Instr), f pc = some i → ∃ len : Nat, decode code pc = .ok (i, len) ∧ (gk_len i = 0 ∨ len = gk_len i)
theorem gk_none {α : Type} {pc N : Nat} {x : Option α} (h : N ≤ pc) : (bif Nat.blt pc N then x else none) = none := by
  have : Nat.blt pc N = false := by
    rw [← Bool.not_eq_true]
    intro hb
    have := Nat.le_of_ble_eq_true hb
    omega
  rw [this]; rfl
theorem gk_dtab {code : ByteArray} {f : Nat → Option Instr} {N : Nat} (h : ∀ pc, pc < N → gk_chk code pc (f pc) = true) (hn : ∀ pc, N ≤ pc → f pc = none) : gk_dok code f := by
  intro pc i hi
  rcases Nat.lt_or_ge pc N with hp | hp
  · have hc := h pc hp
    rw [hi] at hc
    unfold gk_chk at hc
    dsimp only at hc
    split at hc
    · rename_i j len hd
      simp only [Bool.and_eq_true, decide_eq_true_eq, Bool.or_eq_true, Nat.beq_eq] at hc
      obtain ⟨rfl, h2⟩ := hc
      exact ⟨len, hd, h2⟩
    · cases hc
  · rw [hn pc hp] at hi
    cases hi
theorem gk_at {A : Nat → Prop} {B : Nat → Prop} {mi : Nat} (k : Nat) (h1 : k ≤ mi) (h2 : mi < k + 1) (f : A k → B k) (h : A mi) : B mi := by
  obtain rfl : mi = k := by omega
  exact f h
