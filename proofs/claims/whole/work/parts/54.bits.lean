/-! part 30: bits of an int -/
def bt (x : Int32) (i : Nat) : Bool := x.toBitVec.getLsbD i
theorem bt_or (x y : Int32) (i : Nat) : bt (x ||| y) i = (bt x i || bt y i) := by
  unfold bt
  rw [Int32.toBitVec_or, BitVec.getLsbD_or]
theorem bt_and (x y : Int32) (i : Nat) : bt (x &&& y) i = (bt x i && bt y i) := by
  unfold bt
  rw [Int32.toBitVec_and, BitVec.getLsbD_and]
theorem bt_not (x : Int32) {i : Nat} (h : i < 32) : bt (x ^^^ (-1)) i = !bt x i := by
  unfold bt
  rw [Int32.toBitVec_xor, BitVec.getLsbD_xor, show (-1 : Int32).toBitVec = BitVec.allOnes 32 from rfl, BitVec.getLsbD_allOnes]
  simp [h]
theorem bt_zero (i : Nat) : bt 0 i = false := by
  unfold bt
  rw [show (0 : Int32).toBitVec = 0#32 from rfl, BitVec.getLsbD_zero]
theorem bt_big (x : Int32) {i : Nat} (h : 32 ≤ i) : bt x i = false := BitVec.getLsbD_of_ge _ _ h
theorem bt_ext {x y : Int32} (h : ∀ i, i < 32 → bt x i = bt y i) : x = y := Int32.toBitVec_inj.mp (BitVec.eq_of_getLsbD_eq fun i hi => h i hi)
theorem bt_eq0 {x : Int32} : x = 0 ↔ ∀ i, i < 32 → bt x i = false := ⟨fun h i _ => by rw [h]; exact bt_zero i, fun h => bt_ext fun i hi => by rw [h i hi, bt_zero]⟩
theorem bt_p1 : ∀ v : Fin 32, ((1 : Int32) <<< (Int32.ofNat v.1 &&& 31)).toBitVec = BitVec.twoPow 32 v.1 := by decide
theorem bt_pow {v : Nat} (h : v < 32) (i : Nat) : bt ((1 : Int32) <<< (Int32.ofNat v &&& 31)) i = decide (i = v) := by
  unfold bt
  rw [bt_p1 ⟨v, h⟩, BitVec.getLsbD_twoPow]
  by_cases hi : i = v
  · simp [hi, h]
  · simp [hi, Ne.symm hi]
theorem bt_sh : ∀ v : Fin 32, ((Int32.ofNat v.1 &&& 31).toBitVec.smod 32).toNat = v.1 := by decide
theorem bt_shr (x : Int32) {v : Nat} (h : v < 32) : (x >>> (Int32.ofNat v &&& 31)).toBitVec = x.toBitVec.sshiftRight v := by
  rw [Int32.toBitVec_shiftRight]
  show x.toBitVec.sshiftRight ((Int32.ofNat v &&& 31).toBitVec.smod 32).toNat = _
  rw [bt_sh ⟨v, h⟩]
theorem bt_one (i : Nat) : bt 1 i = decide (i = 0) := bt_pow (v := 0) (by decide) i
theorem bt_test (x : Int32) {v : Nat} (h : v < 32) (i : Nat) (hi : i < 32) : bt ((x >>> (Int32.ofNat v &&& 31)) &&& 1) i = (decide (i = 0) && bt x v) := by
  rw [bt_and, bt_one]
  by_cases h0 : i = 0
  · subst h0
    unfold bt
    rw [bt_shr x h, BitVec.getLsbD_sshiftRight]
    simp [h]
  · simp [h0]
theorem bt_is0 (x : Int32) {v : Nat} (h : v < 32) : ((x >>> (Int32.ofNat v &&& 31)) &&& 1) = 0 ↔ bt x v = false := by
  rw [bt_eq0]
  constructor
  · intro q
    have := q 0 (by decide)
    rw [bt_test x h 0 (by decide)] at this
    simpa using this
  · intro q i hi
    rw [bt_test x h i hi, q, Bool.and_false]
theorem bt_is1 (x : Int32) {v : Nat} (h : v < 32) : ((x >>> (Int32.ofNat v &&& 31)) &&& 1) = 1 ↔ bt x v = true := by
  constructor
  · intro q
    rcases hb : bt x v with _ | _
    · rw [(bt_is0 x h).mpr hb] at q
      exact absurd q (by decide)
    · rfl
  · intro q
    refine bt_ext fun i hi => ?_
    rw [bt_test x h i hi, q, bt_one, Bool.and_true]
theorem f_36_eq (x : Int32) {v : Nat} (h : v < 32) : f_36 x (Int32.ofNat v) = if bt x v = true then 1 else 0 := by
  unfold f_36
  by_cases q : bt x v = true
  · rw [if_pos q, if_neg]
    rw [bt_is0 x h, q]
    decide
  · rw [if_neg q, if_pos]
    rw [bt_is0 x h]
    simpa using q
theorem f_36_0 (x : Int32) {v : Nat} (h : v < 32) : f_36 x (Int32.ofNat v) = 0 ↔ bt x v = false := by
  rw [f_36_eq x h]
  cases bt x v <;> decide
