/-! part 31: a rule as one number -/
abbrev Rl : Type := Nat × List Nat
def en : List Nat → Nat → Nat
  | [], _ => 0
  | x :: s, k => x * 2 ^ (45 - 5 * k) + en s (k + 1)
def pkN (r : Rl) : Nat := r.1 * 2 ^ 54 + r.2.length * 2 ^ 50 + en r.2 0
def okR (r : Rl) : Prop := r.1 < 16 ∧ r.2.length ≤ 10 ∧ ∀ x ∈ r.2, x < 22
def pk (r : Rl) : Int64 := Int64.ofNat (pkN r)
theorem pw_s {k : Nat} (h : k ≤ 9) : 2 ^ (50 - 5 * k) = 32 * 2 ^ (45 - 5 * k) := by
  rw [show 50 - 5 * k = 5 + (45 - 5 * k) by omega, Nat.pow_add]
theorem en_lt : ∀ (s : List Nat) (k : Nat), k + s.length ≤ 10 → (∀ x ∈ s, x < 32) → en s k < 2 ^ (50 - 5 * k)
  | [], k, _, _ => Nat.two_pow_pos _
  | x :: s, k, hl, hx => by
    simp only [List.length_cons] at hl
    have h1 := en_lt s (k + 1) (by omega) (fun y hy => hx y (List.mem_cons_of_mem _ hy))
    have h2 := hx x List.mem_cons_self
    rw [show 50 - 5 * (k + 1) = 45 - 5 * k by omega] at h1
    rw [pw_s (by omega)]
    simp only [en]
    have h3 : x * 2 ^ (45 - 5 * k) ≤ 31 * 2 ^ (45 - 5 * k) := Nat.mul_le_mul_right _ (by omega)
    omega
theorem en_app : ∀ (s : List Nat) (k x : Nat), en (s ++ [x]) k = en s k + x * 2 ^ (45 - 5 * (k + s.length))
  | [], k, x => by simp [en]
  | y :: s, k, x => by
    simp only [List.cons_append, en, en_app s (k + 1) x, List.length_cons]
    rw [show k + 1 + s.length = k + (s.length + 1) by omega]
    omega
theorem en_dig : ∀ (s : List Nat) (k i : Nat) (hl : k + s.length ≤ 10) (hx : ∀ x ∈ s, x < 32) (hi : i < s.length), en s k / 2 ^ (45 - 5 * (k + i)) % 32 = s[i]
  | x :: s, k, 0, hl, hx, hi => by
    simp only [List.length_cons] at hl
    have h1 := en_lt s (k + 1) (by omega) (fun y hy => hx y (List.mem_cons_of_mem _ hy))
    rw [show 50 - 5 * (k + 1) = 45 - 5 * k by omega] at h1
    have h2 := hx x List.mem_cons_self
    simp only [en, Nat.add_zero, List.getElem_cons_zero]
    rw [Nat.mul_comm, Nat.mul_add_div (Nat.two_pow_pos _), Nat.div_eq_of_lt h1, Nat.add_zero, Nat.mod_eq_of_lt h2]
  | x :: s, k, i + 1, hl, hx, hi => by
    simp only [List.length_cons] at hl hi
    have h1 := en_dig s (k + 1) i (by omega) (fun y hy => hx y (List.mem_cons_of_mem _ hy)) (by omega)
    simp only [en, List.getElem_cons_succ]
    rw [show k + (i + 1) = k + 1 + i by omega]
    rw [show 45 - 5 * k = (45 - 5 * (k + 1 + i)) + 5 * (i + 1) by omega, Nat.pow_add]
    rw [show x * (2 ^ (45 - 5 * (k + 1 + i)) * 2 ^ (5 * (i + 1))) = 2 ^ (45 - 5 * (k + 1 + i)) * (x * 2 ^ (5 * (i + 1))) by rw [Nat.mul_left_comm]]
    rw [Nat.mul_add_div (Nat.two_pow_pos _), show 5 * (i + 1) = 5 * i + 5 by omega, Nat.pow_add]
    rw [show x * (2 ^ (5 * i) * 2 ^ 5) = 32 * (x * 2 ^ (5 * i)) by rw [show (2 : Nat) ^ 5 = 32 from rfl, ← Nat.mul_assoc, Nat.mul_comm]]
    rw [Nat.mul_add_mod]
    exact h1
theorem pkN_lt {r : Rl} (h : okR r) : pkN r < 2 ^ 58 := by
  have h1 := en_lt r.2 0 (by have := h.2.1; omega) (fun x hx => by have := h.2.2 x hx; omega)
  have h2 := h.1
  have h3 := h.2.1
  unfold pkN
  simp only [Nat.mul_zero, Nat.sub_zero] at h1
  omega
theorem pkN_len {r : Rl} (h : okR r) : pkN r / 2 ^ 50 % 16 = r.2.length := by
  have h1 := en_lt r.2 0 (by have := h.2.1; omega) (fun x hx => by have := h.2.2 x hx; omega)
  have h3 := h.2.1
  unfold pkN
  simp only [Nat.mul_zero, Nat.sub_zero] at h1
  omega
theorem pkN_left {r : Rl} (h : okR r) : pkN r / 2 ^ 54 = r.1 := by
  have h1 := en_lt r.2 0 (by have := h.2.1; omega) (fun x hx => by have := h.2.2 x hx; omega)
  have h3 := h.2.1
  unfold pkN
  simp only [Nat.mul_zero, Nat.sub_zero] at h1
  omega
theorem pkN_dig {r : Rl} (h : okR r) {i : Nat} (hi : i < r.2.length) : pkN r / 2 ^ (45 - 5 * i) % 32 = r.2[i] := by
  have h1 := en_dig r.2 0 i (by have := h.2.1; omega) (fun x hx => by have := h.2.2 x hx; omega) hi
  have h3 := h.2.1
  unfold pkN
  rw [Nat.zero_add] at h1
  have e54 : (2 : Nat) ^ 54 = 2 ^ (45 - 5 * i) * (32 * 2 ^ (5 * i + 4)) := by
    rw [show (32 : Nat) = 2 ^ 5 from rfl, ← Nat.pow_add, ← Nat.pow_add]; congr 1; omega
  have e50 : (2 : Nat) ^ 50 = 2 ^ (45 - 5 * i) * (32 * 2 ^ (5 * i)) := by
    rw [show (32 : Nat) = 2 ^ 5 from rfl, ← Nat.pow_add, ← Nat.pow_add]; congr 1; omega
  have e : r.1 * 2 ^ 54 + r.2.length * 2 ^ 50 = 2 ^ (45 - 5 * i) * (32 * (r.1 * 2 ^ (5 * i + 4) + r.2.length * 2 ^ (5 * i))) := by
    rw [e54, e50, Nat.mul_add, Nat.mul_add, Nat.mul_left_comm r.1, Nat.mul_left_comm r.1, Nat.mul_left_comm r.2.length, Nat.mul_left_comm r.2.length]
  rw [e, Nat.mul_add_div (Nat.two_pow_pos _), Nat.mul_add_mod]
  exact h1
theorem l_sm : ∀ s : Fin 64, ((Int64.ofNat s.1).toBitVec.smod 64).toNat = s.1 := by decide
theorem l_shr {N s : Nat} (hN : N < 2 ^ 63) (hs : s < 64) : Int64.ofNat N >>> Int64.ofNat s = Int64.ofNat (N / 2 ^ s) := by
  apply Int64.toBitVec_inj.mp
  rw [Int64.toBitVec_shiftRight]
  show (Int64.ofNat N).toBitVec.sshiftRight ((Int64.ofNat s).toBitVec.smod 64).toNat = _
  rw [l_sm ⟨s, hs⟩]
  show (BitVec.ofNat 64 N).sshiftRight s = BitVec.ofNat 64 (N / 2 ^ s)
  have hm : (BitVec.ofNat 64 N).msb = false := by
    rw [BitVec.msb_eq_decide, BitVec.toNat_ofNat, Nat.mod_eq_of_lt (by omega)]
    simp only [decide_eq_false_iff_not]
    omega
  rw [BitVec.sshiftRight_eq_of_msb_false hm]
  apply BitVec.eq_of_toNat_eq
  rw [BitVec.toNat_ushiftRight, BitVec.toNat_ofNat, BitVec.toNat_ofNat, Nat.mod_eq_of_lt (by omega : N < 2 ^ 64), Nat.shiftRight_eq_div_pow]
  rw [Nat.mod_eq_of_lt]
  exact Nat.lt_of_le_of_lt (Nat.div_le_self _ _) (by omega)
theorem i_and {a n : Nat} (hn : n ≤ 31) : Int32.ofNat a &&& Int32.ofNat (2 ^ n - 1) = Int32.ofNat (a % 2 ^ n) := by
  apply Int32.toBitVec_inj.mp
  rw [Int32.toBitVec_and]
  show BitVec.ofNat 32 a &&& BitVec.ofNat 32 (2 ^ n - 1) = BitVec.ofNat 32 (a % 2 ^ n)
  apply BitVec.eq_of_toNat_eq
  have h2 : 2 ^ n ≤ 2 ^ 31 := Nat.pow_le_pow_right (by decide) hn
  have h3 : 0 < 2 ^ n := Nat.two_pow_pos n
  have h4 : a % 2 ^ n < 2 ^ n := Nat.mod_lt _ h3
  rw [BitVec.toNat_and, BitVec.toNat_ofNat, BitVec.toNat_ofNat, BitVec.toNat_ofNat, Nat.mod_eq_of_lt (by omega : 2 ^ n - 1 < 2 ^ 32), Nat.mod_eq_of_lt (by omega : a % 2 ^ n < 2 ^ 32), Nat.and_two_pow_sub_one_eq_mod]
  exact Nat.mod_mod_of_dvd a ⟨2 ^ (32 - n), by rw [← Nat.pow_add]; congr 1; omega⟩
theorem f_24_pk {r : Rl} (h : okR r) : f_24 (pk r) = Int32.ofNat r.2.length := by
  unfold f_24 pk
  rw [show (50 : Int64) = Int64.ofNat 50 from rfl, l_shr (by have := pkN_lt h; omega) (by decide), Int64.toInt32_ofNat', show (15 : Int32) = Int32.ofNat (2 ^ 4 - 1) from rfl, i_and (by decide), show (2 : Nat) ^ 4 = 16 from rfl, pkN_len h]
theorem f_25_pk {r : Rl} (h : okR r) : f_25 (pk r) = Int32.ofNat r.1 := by
  unfold f_25 pk
  rw [show (54 : Int64) = Int64.ofNat 54 from rfl, l_shr (by have := pkN_lt h; omega) (by decide), Int64.toInt32_ofNat', pkN_left h]
theorem f_26_sh : ∀ k : Fin 10, ((50 - 5 * Int32.ofNat (k.1 + 1)).toInt64 &&& 63) = Int64.ofNat (45 - 5 * k.1) := by decide
theorem f_26_pk {r : Rl} (h : okR r) {i : Nat} (hi : i < r.2.length) : f_26 (pk r) (Int32.ofNat (i + 1)) = Int32.ofNat r.2[i] := by
  have h10 := h.2.1
  unfold f_26 pk
  rw [f_26_sh ⟨i, by omega⟩, l_shr (by have := pkN_lt h; omega) (by show 45 - 5 * i < 64; omega), Int64.toInt32_ofNat', show (31 : Int32) = Int32.ofNat (2 ^ 5 - 1) from rfl, i_and (by decide), show (2 : Nat) ^ 5 = 32 from rfl]
  show Int32.ofNat (pkN r / 2 ^ (45 - 5 * i) % 32) = _
  rw [pkN_dig h hi]
theorem f_90_fin : ∀ l : Fin 16, (Int32.ofNat l.1).toInt64 <<< (54 : Int64) = Int64.ofNat (l.1 * 2 ^ 54) := by decide
theorem f_90_pk {l : Nat} (h : l < 16) : f_90 (Int32.ofNat l) = pk (l, []) := by
  unfold f_90 pk
  rw [f_90_fin ⟨l, h⟩]
  simp [pkN, en]
theorem l_lt {a b : Nat} (ha : a < 2 ^ 63) (hb : b < 2 ^ 63) : Int64.ofNat a < Int64.ofNat b ↔ a < b := Int64.ofNat_lt_iff_lt ha hb
theorem l_inj {a b : Nat} (ha : a < 2 ^ 63) (hb : b < 2 ^ 63) (h : Int64.ofNat a = Int64.ofNat b) : a = b := by
  have := congrArg Int64.toNatClampNeg h
  rwa [Int64.toNatClampNeg_ofNat_of_lt ha, Int64.toNatClampNeg_ofNat_of_lt hb] at this
theorem pk_ne1 {r : Rl} (h : okR r) : pk r ≠ -1 := by
  intro q
  have h1 := congrArg Int64.toInt q
  unfold pk at h1
  rw [Int64.toInt_ofNat_of_lt (by have := pkN_lt h; omega)] at h1
  have : (-1 : Int64).toInt = -1 := rfl
  omega
theorem lg_cmp_eq0 {x y : Int64} : lg_cmp x y = 0 ↔ x = y := by
  unfold lg_cmp
  by_cases h1 : x > y
  · rw [if_pos h1]
    constructor
    · intro q; exact absurd q (by decide)
    · intro q; subst q; exact absurd h1 (by simp [Int64.lt_iff_toInt_lt])
  · rw [if_neg h1]
    by_cases h2 : x = y
    · simp [h2]
    · rw [if_neg h2]
      constructor
      · intro q; exact absurd q (by decide)
      · intro q; exact absurd q h2
theorem f_91_fin : ∀ (n : Fin 10) (x : Fin 32), (Int32.ofNat x.1).toInt64 <<< ((50 - 5 * (Int32.ofNat n.1 + 1)).toInt64 &&& 63) = Int64.ofNat (x.1 * 2 ^ (45 - 5 * n.1)) := by decide +kernel
theorem f_91_pk {r : Rl} (h : okR r) {x : Nat} (hx : x < 22) : f_91 (pk r) (Int32.ofNat x) = if r.2.length < 10 then pk (r.1, r.2 ++ [x]) else -1 := by
  have h10 := h.2.1
  unfold f_91
  rw [if_neg (fun q => pk_ne1 h (lg_cmp_eq0.mp q)), f_24_pk h, show (10 : Int32) = Int32.ofNat 10 from rfl]
  by_cases hl : r.2.length < 10
  · rw [if_pos ((i_lt (by omega) (by omega)).mpr hl), if_pos hl, f_91_fin ⟨r.2.length, hl⟩ ⟨x, by omega⟩]
    unfold pk
    rw [show (1125899906842624 : Int64) = Int64.ofNat (2 ^ 50) from rfl, ← Int64.ofNat_add, ← Int64.ofNat_add]
    refine congrArg Int64.ofNat ?_
    simp only [pkN, List.length_append, List.length_cons, List.length_nil, en_app, Nat.zero_add]
    omega
  · rw [if_neg (fun q => hl ((i_lt (by omega) (by omega)).mp q)), if_neg hl]
theorem f_91_long (x : Int32) : f_91 (-1) x = -1 := by
  unfold f_91
  rw [if_pos (lg_cmp_eq0.mpr rfl)]
theorem f_105_pk {r : Rl} (h : okR r) {l : Nat} (hl : l < 16) : f_105 (pk r) (Int32.ofNat l) = pk (l, r.2) := by
  unfold f_105
  rw [f_25_pk h, f_90_pk h.1, f_90_pk hl]
  unfold pk
  rw [← Int64.ofNat_sub _ _ (by simp only [pkN, List.length_nil, en]; omega), ← Int64.ofNat_add]
  refine congrArg Int64.ofNat ?_
  simp only [pkN, List.length_nil, en]
  omega
theorem pkN_inj {r q : Rl} (hr : okR r) (hq : okR q) (h : pkN r = pkN q) : r = q := by
  have h1 : r.1 = q.1 := by rw [← pkN_left hr, ← pkN_left hq, h]
  have h2 : r.2.length = q.2.length := by rw [← pkN_len hr, ← pkN_len hq, h]
  have h3 : r.2 = q.2 := List.ext_getElem h2 fun i a b => by rw [← pkN_dig hr a, ← pkN_dig hq b, h]
  exact Prod.ext h1 h3
theorem pk_inj {r q : Rl} (hr : okR r) (hq : okR q) (h : pk r = pk q) : r = q := pkN_inj hr hq (l_inj (by have := pkN_lt hr; omega) (by have := pkN_lt hq; omega) h)
theorem pk_ltN {r q : Rl} (hr : okR r) (hq : okR q) : pk r < pk q ↔ pkN r < pkN q := l_lt (by have := pkN_lt hr; omega) (by have := pkN_lt hq; omega)
