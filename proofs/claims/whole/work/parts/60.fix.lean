/-! part 34: sets of numbers that grow, and where they end -/
def cnt : Nat → (Nat → Bool) → Nat
  | 0, _ => 0
  | n + 1, S => cnt n S + (if S n = true then 1 else 0)
theorem cnt_le : ∀ (n : Nat) (S : Nat → Bool), cnt n S ≤ n
  | 0, _ => Nat.le_refl _
  | n + 1, S => by
    have := cnt_le n S
    simp only [cnt]
    split <;> omega
theorem cnt_mono : ∀ (n : Nat) {S T : Nat → Bool}, (∀ i, i < n → S i = true → T i = true) → cnt n S ≤ cnt n T
  | 0, _, _, _ => Nat.le_refl _
  | n + 1, S, T, h => by
    have h1 := cnt_mono n (fun i hi => h i (by omega))
    have h2 := h n (by omega)
    simp only [cnt]
    by_cases hs : S n = true
    · rw [if_pos hs, if_pos (h2 hs)]; omega
    · rw [if_neg hs]; omega
theorem cnt_lt : ∀ (n : Nat) {S T : Nat → Bool}, (∀ i, i < n → S i = true → T i = true) → (∃ i, i < n ∧ S i = false ∧ T i = true) → cnt n S < cnt n T
  | 0, _, _, _, h => by obtain ⟨i, hi, _⟩ := h; omega
  | n + 1, S, T, h, h' => by
    have h1 := cnt_mono n (fun i hi => h i (by omega))
    have h2 := h n (by omega)
    simp only [cnt]
    obtain ⟨i, hi, hs, ht⟩ := h'
    by_cases hin : i = n
    · subst hin
      rw [if_neg (by rw [hs]; decide), if_pos ht]; omega
    · have h3 := cnt_lt n (fun i hi => h i (by omega)) ⟨i, by omega, hs, ht⟩
      by_cases hs : S n = true
      · rw [if_pos hs, if_pos (h2 hs)]; omega
      · rw [if_neg hs]; omega
theorem cnt_full : ∀ (n : Nat) {S : Nat → Bool}, n ≤ cnt n S → ∀ i, i < n → S i = true
  | 0, _, _, i, hi => by omega
  | n + 1, S, h, i, hi => by
    have h1 := cnt_le n S
    simp only [cnt] at h
    by_cases hs : S n = true
    · rw [if_pos hs] at h
      by_cases hin : i = n
      · subst hin; exact hs
      · exact cnt_full n (by omega) i (by omega)
    · rw [if_neg hs] at h; omega
theorem fold_le {α β : Type} (le : α → α → Prop) (hr : ∀ a, le a a) (ht : ∀ a b c, le a b → le b c → le a c) (f : α → β → α) (hf : ∀ a b, le a (f a b)) : ∀ (l : List β) (x : α), le x (l.foldl f x)
  | [], x => hr x
  | b :: l, x => ht _ _ _ (hf x b) (fold_le le hr ht f hf l (f x b))
theorem fold_fix {α β : Type} (le : α → α → Prop) (hr : ∀ a, le a a) (ht : ∀ a b c, le a b → le b c → le a c) (ha : ∀ a b, le a b → le b a → a = b) (f : α → β → α) (hf : ∀ a b, le a (f a b)) : ∀ (l : List β) (x : α), l.foldl f x = x → ∀ b ∈ l, f x b = x
  | [], x, _, b, hb => absurd hb List.not_mem_nil
  | c :: l, x, h, b, hb => by
    have h1 : f x c = x := by
      refine (ha _ _ (hf x c) ?_).symm
      have := fold_le le hr ht f hf l (f x c)
      rwa [← List.foldl_cons (f := f) (b := x), h] at this
    rcases List.mem_cons.mp hb with rfl | hb
    · exact h1
    · refine fold_fix le hr ht ha f hf l x ?_ b hb
      rw [List.foldl_cons, h1] at h
      exact h
theorem fold_inv {α β : Type} (P : α → Prop) (f : α → β → α) (l : List β) (hf : ∀ a b, b ∈ l → P a → P (f a b)) (x : α) (h : P x) : P (l.foldl f x) := by
  induction l generalizing x with
  | nil => exact h
  | cons b l ih => exact ih (fun a c hc => hf a c (List.mem_cons_of_mem _ hc)) _ (hf x b List.mem_cons_self h)
/-- bits: one int within another -/
def ble (x y : Int32) : Prop := ∀ i, bt x i = true → bt y i = true
theorem ble_refl (x : Int32) : ble x x := fun _ h => h
theorem ble_trans (x y z : Int32) (h : ble x y) (h' : ble y z) : ble x z := fun i q => h' i (h i q)
theorem ble_anti (x y : Int32) (h : ble x y) (h' : ble y x) : x = y := bt_ext fun i _ => by
  rcases hx : bt x i with _ | _ <;> rcases hy : bt y i with _ | _ <;> first | rfl | exact absurd (h i hx) (by rw [hy]; decide) | exact absurd (h' i hy) (by rw [hx]; decide)
theorem ble_or (x y : Int32) : ble x (x ||| y) := fun i h => by rw [bt_or, h]; rfl
/-- a rule whose right side is all in S (letters: if they may) gives its left side -/
def fire (lt : Bool) (S : Nat → Bool) (r : Rl) : Prop := ∀ s ∈ r.2, (s < 16 → S s = true) ∧ (16 ≤ s → lt = true)
def clP (lt : Bool) (G : List Rl) (S : Nat → Bool) : Prop := ∀ r ∈ G, fire lt S r → S r.1 = true
/-- the least such set -/
def isP (lt : Bool) (G : List Rl) (S : Nat → Bool) : Prop := clP lt G S ∧ ∀ T : Nat → Bool, clP lt G T → ∀ v, S v = true → T v = true
theorem isP_uniq {lt : Bool} {G : List Rl} {S T : Nat → Bool} (h : isP lt G S) (h' : isP lt G T) : S = T := by
  funext v
  rcases hx : S v with _ | _ <;> rcases hy : T v with _ | _ <;> first | rfl | exact absurd (h.2 T h'.1 v hx) (by rw [hy]; decide) | exact absurd (h'.2 S h.1 v hy) (by rw [hx]; decide)
theorem fire_mono {lt : Bool} {S T : Nat → Bool} (h : ∀ v, S v = true → T v = true) {r : Rl} (hf : fire lt S r) : fire lt T r := fun s hs => ⟨fun q => h s ((hf s hs).1 q), (hf s hs).2⟩
theorem sub_bits {s : List Nat} {x : Int32} : (vs s 0 &&& (x ^^^ (-1))) = 0 ↔ ∀ v ∈ s, v < 16 → bt x v = true := by
  rw [bt_eq0]
  constructor
  · intro h v hv h16
    have := h v (by omega)
    rw [bt_and, vs_bt, bt_not x (by omega)] at this
    simpa [hv, h16, bt_zero] using this
  · intro h i hi
    rw [bt_and, vs_bt, bt_not x hi, bt_zero]
    by_cases hv : i < 16 ∧ i ∈ s
    · simp [h i hv.2 hv.1]
    · simp [hv]
/-- a step of Facts.producing -/
def prS (lt : Bool) (x : Int32) (r : Rl) : Int32 := if (vs r.2 0 &&& (x ^^^ (-1))) = 0 ∧ (lt = true ∨ hl r.2 = 0) then x ||| ((1 : Int32) <<< (Int32.ofNat r.1 &&& 31)) else x
theorem prS_cond {lt : Bool} {x : Int32} {r : Rl} : ((vs r.2 0 &&& (x ^^^ (-1))) = 0 ∧ (lt = true ∨ hl r.2 = 0)) ↔ fire lt (bt x) r := by
  rw [sub_bits, hl_0]
  constructor
  · rintro ⟨h1, h2⟩ s hs
    refine ⟨h1 s hs, fun h16 => ?_⟩
    rcases h2 with h2 | h2
    · exact h2
    · have := h2 s hs; omega
  · intro h
    refine ⟨fun v hv => (h v hv).1, ?_⟩
    cases lt with
    | true => exact Or.inl rfl
    | false =>
      refine Or.inr fun v hv => ?_
      by_cases h16 : v < 16
      · exact h16
      · exact absurd ((h v hv).2 (by omega)) (by decide)
theorem prS_le (lt : Bool) (x : Int32) (r : Rl) : ble x (prS lt x r) := by
  unfold prS
  split
  · exact ble_or _ _
  · exact ble_refl _
theorem prS_fix {lt : Bool} {x : Int32} {r : Rl} (hr : okR r) (h : prS lt x r = x) (hf : fire lt (bt x) r) : bt x r.1 = true := by
  have h1 := hr.1
  unfold prS at h
  rw [if_pos (prS_cond.mpr hf)] at h
  rw [← h, bt_or, bt_pow (by omega)]
  simp
theorem prS_inv {lt : Bool} {G : List Rl} {T : Nat → Bool} (hT : clP lt G T) {x : Int32} {r : Rl} (hr : okR r) (hm : r ∈ G) (h : ∀ v, bt x v = true → T v = true) : ∀ v, bt (prS lt x r) v = true → T v = true := by
  have h1 := hr.1
  intro v hv
  unfold prS at hv
  split at hv
  · rename_i hc
    rw [bt_or, bt_pow (by omega)] at hv
    simp only [Bool.or_eq_true, decide_eq_true_eq] at hv
    rcases hv with hv | rfl
    · exact h v hv
    · exact hT r hm (fire_mono h (prS_cond.mp hc))
  · exact h v hv
def prR (lt : Bool) (G : List Rl) (x : Int32) : Int32 := G.foldl (prS lt) x
theorem prR_le (lt : Bool) (G : List Rl) (x : Int32) : ble x (prR lt G x) := fold_le ble ble_refl ble_trans _ (prS_le lt) G x
theorem prR_fix {lt : Bool} {G : List Rl} (hG : ∀ r ∈ G, okR r) {x : Int32} (h : prR lt G x = x) : clP lt G (bt x) := fun r hr hf => prS_fix (hG r hr) (fold_fix ble ble_refl ble_trans ble_anti _ (prS_le lt) G x h r hr) hf
theorem prR_inv {lt : Bool} {G : List Rl} (hG : ∀ r ∈ G, okR r) {T : Nat → Bool} (hT : clP lt G T) {x : Int32} (h : ∀ v, bt x v = true → T v = true) : ∀ v, bt (prR lt G x) v = true → T v = true := fold_inv (fun x => ∀ v, bt x v = true → T v = true) _ G (fun x r hr hx => prS_inv hT (hG r hr) hr hx) x h
theorem prR_16 {lt : Bool} {G : List Rl} (hG : ∀ r ∈ G, okR r) {x : Int32} (h : ∀ v, bt x v = true → v < 16) : ∀ v, bt (prR lt G x) v = true → v < 16 := by
  have := prR_inv (lt := lt) hG (T := fun v => decide (v < 16)) (fun r hr _ => decide_eq_true (hG r hr).1) (x := x) (fun v hv => decide_eq_true (h v hv))
  exact fun v hv => of_decide_eq_true (this v hv)
theorem bne_ex {x y : Int32} (h : ble x y) (hn : x ≠ y) (h16 : ∀ v, bt y v = true → v < 16) : ∃ i, i < 16 ∧ bt x i = false ∧ bt y i = true := by
  refine Classical.byContradiction fun hc => hn (ble_anti x y h fun i hi => ?_)
  rcases hx : bt x i with _ | _
  · exact absurd ⟨i, h16 i hi, hx, hi⟩ hc
  · rfl
